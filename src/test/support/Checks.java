import java.util.Arrays;
import java.util.function.ToLongFunction;

/** What the tests share: the document's numbers, the count of wrong answers, and a look at all that an object holds. */
abstract class Checks {
    static final int REFUSED = -1;
    static final int UNAVAILABLE = -2;
    static final long ABSENT = 1000000000000L;
    static final long NONE = -1000000000000L;
    static final int LEAST = Integer.MIN_VALUE;
    static final int GREATEST = Integer.MAX_VALUE;

    /** The ends of int and what lies around 0, in rising order: stamps and values. */
    static final int[] NUMBERS = {LEAST, LEAST + 1, -1, 0, 1, GREATEST - 1, GREATEST};

    static final int[] WRONG_PLACES = {-1, 64, LEAST, GREATEST};
    static final int[] WRONG_PARTITIONS = {-1, 8, LEAST, GREATEST};
    static final int[] WRONG_NODES = {-1, 4, LEAST, GREATEST};
    static final int[] WRONG_LEVELS = {0, 4, -1, LEAST, GREATEST};

    /** The replicas of each partition, in their order; written out, so that no sum of the class is repeated here. */
    static final int[][] REPLICAS = {
        {0, 1, 2}, {1, 2, 3}, {2, 3, 0}, {3, 0, 1}, {0, 1, 2}, {1, 2, 3}, {2, 3, 0}, {3, 0, 1},
    };

    private static String part = "";
    private static int wrong = 0;

    /** Names the part of the document that the checks from here on are about. */
    static void about(String what) {
        part = what;
    }

    static boolean due(String what, long got, long want) {
        if (got != want) {
            wrong++;
            System.out.println(part + ": " + what + ": answered " + got + ", due is " + want);
        }
        return got == want;
    }

    static boolean allAsDue() {
        return wrong == 0;
    }

    static void end() {
        System.out.println(wrong == 0 ? "all answers are as due" : wrong + " answers are not as due");
        if (wrong != 0) {
            System.exit(1);
        }
    }

    static boolean isReplica(int node, int partition) {
        for (int each : REPLICAS[partition]) {
            if (each == node) {
                return true;
            }
        }
        return false;
    }

    /** The nodes of the mask are down: bit n stands for node n. */
    static boolean isIn(int mask, int node) {
        return (mask >> node & 1) == 1;
    }

    static int countUp(int partition, int downMask) {
        int count = 0;
        for (int node : REPLICAS[partition]) {
            count += isIn(downMask, node) ? 0 : 1;
        }
        return count;
    }

    /**
     * An object with much to lose: what nodes hold differs from their flushed content, node 2 is behind the others,
     * entries are DEAD and hidden, the nodes of the mask are down, and there are hints for them where there can be.
     * At most 76 calls, which leaves enough of the 512 for a trace.
     */
    static QuorumCells busy(int downMask) {
        QuorumCells x = new QuorumCells(1);
        for (int partition = 0; partition < 8; partition++) {
            x.write(8 * partition, partition + 1, 5, 1);
            x.erase(8 * partition + 1, 5, 1);
            x.wipe(partition, 1, 1);
        }
        for (int node = 0; node < 4; node++) {
            x.flush(node);
        }
        for (int partition = 0; partition < 8; partition++) {
            x.write(8 * partition + 2, 7, 3, 1);
        }
        x.wipe(0, 2, 1);
        x.wipe(6, 5, 1);
        x.crash(2);
        x.up(2);
        for (int node = 0; node < 4; node++) {
            if (isIn(downMask, node)) {
                x.down(node);
                for (int partition = 0; partition < 8; partition++) {
                    x.write(8 * partition + 3, 8, 6 + node, 1);
                }
            }
        }
        return x;
    }

    /** All that there is to see of the node: what it holds, then its flushed content, then what hints bring it. */
    private static long[] trace(QuorumCells x, int node) {
        long[] seen = new long[425];
        look(x, node, seen, 0);
        seen[141] = x.crash(node);
        look(x, node, seen, 142);
        seen[283] = x.up(node);
        look(x, node, seen, 284);
        return seen;
    }

    private static void look(QuorumCells x, int node, long[] seen, int from) {
        int at = from;
        for (int place = 0; place < 64; place++) {
            seen[at++] = x.stamp(node, place);
            seen[at++] = x.local(node, place);
        }
        for (int partition = 0; partition < 8; partition++) {
            seen[at++] = x.wiped(node, partition);
        }
        for (int each = 0; each < 4; each++) {
            seen[at++] = x.isUp(each);
        }
        seen[at] = x.hints();
    }

    /** On a busy object the call has this answer, and all is as it was without the call. */
    static void changesNothing(String what, int downMask, ToLongFunction<QuorumCells> call, long want) {
        String where = what + " with the nodes of " + Integer.toBinaryString(downMask) + " down";
        for (int node = 0; node < 4; node++) {
            QuorumCells called = busy(downMask);
            due(where, call.applyAsLong(called), want);
            int difference = Arrays.mismatch(trace(called, node), trace(busy(downMask), node));
            due(where + ": what is different on node " + node, difference, -1);
        }
    }
}
