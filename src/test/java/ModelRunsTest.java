import java.util.ArrayList;
import java.util.HashMap;
import java.util.List;
import java.util.Map;

/**
 * Fixed runs of calls, each answer held against a model written from the document alone, in another shape than the
 * class: maps of entries that never change, and lists of nodes. Long runs use up the 512 calls of an object; short
 * ones leave enough of them to look at the end at all that the nodes hold.
 */
public final class ModelRunsTest extends Checks {
    private static final int RUNS = 3000;
    private static final int LONG_RUN = 512;
    private static final int SHORT_RUN = 100;

    /** An entry with a value, a DEAD one (value null), or a wipe (value null). */
    private record Item(int stamp, Integer value) {
        boolean isNewerThan(Item other) {
            if (other == null || stamp != other.stamp) {
                return other == null || stamp > other.stamp;
            }
            if (value == null || other.value == null) {
                return value == null && other.value != null;
            }
            return value > other.value;
        }
    }

    private record Hint(int node, boolean isWipe, int key, Item item) {
    }

    /** Entries by place, wipes by partition. */
    private static final class Content {
        final Map<Integer, Item> entries = new HashMap<>();
        final Map<Integer, Item> wipes = new HashMap<>();

        Content copy() {
            Content copy = new Content();
            copy.entries.putAll(entries);
            copy.wipes.putAll(wipes);
            return copy;
        }

        Map<Integer, Item> part(boolean isWipe) {
            return isWipe ? wipes : entries;
        }

        boolean take(boolean isWipe, int key, Item item) {
            Map<Integer, Item> part = part(isWipe);
            if (item == null || !item.isNewerThan(part.get(key))) {
                return false;
            }
            part.put(key, item);
            return true;
        }

        boolean hides(int place) {
            Item wipe = wipes.get(place / 8);
            Item entry = entries.get(place);
            return wipe != null && entry != null && wipe.stamp >= entry.stamp;
        }

        long live(int place) {
            Item entry = entries.get(place);
            return entry == null || entry.value == null || hides(place) ? ABSENT : entry.value;
        }

        void compact(int before) {
            for (int place = 0; place < 64; place++) {
                if (hides(place)) {
                    entries.remove(place);
                }
            }
            entries.values().removeIf(entry -> entry.value == null && entry.stamp < before);
            wipes.values().removeIf(wipe -> wipe.stamp < before);
        }
    }

    private static final class Model {
        final boolean keepsHints;
        final List<Hint> hints = new ArrayList<>();
        final Content[] held = {new Content(), new Content(), new Content(), new Content()};
        final Content[] flushed = {new Content(), new Content(), new Content(), new Content()};
        final boolean[] up = {true, true, true, true};

        Model(int hints) {
            keepsHints = hints != 0;
        }

        static boolean in(int number, int least, int greatest) {
            return least <= number && number <= greatest;
        }

        static List<Integer> replicas(int partition) {
            return List.of(partition % 4, (partition + 1) % 4, (partition + 2) % 4);
        }

        List<Integer> upReplicas(int partition) {
            List<Integer> nodes = new ArrayList<>(replicas(partition));
            nodes.removeIf(node -> !up[node]);
            return nodes;
        }

        int send(boolean isWipe, int key, Item item, int level) {
            if (!in(key, 0, isWipe ? 7 : 63) || !in(level, 1, 3)) {
                return REFUSED;
            }
            int partition = isWipe ? key : key / 8;
            int count = upReplicas(partition).size();
            if (count < level) {
                return UNAVAILABLE;
            }
            for (int node : replicas(partition)) {
                if (up[node]) {
                    held[node].take(isWipe, key, item);
                } else if (keepsHints) {
                    if (hints.size() == 12) {
                        hints.remove(0);
                    }
                    hints.add(new Hint(node, isWipe, key, item));
                }
            }
            return count;
        }

        long read(int place, int level) {
            if (!in(place, 0, 63) || !in(level, 1, 3) || upReplicas(place / 8).size() < level) {
                return NONE;
            }
            List<Integer> asked = upReplicas(place / 8).subList(0, level);
            Content answer = new Content();
            for (int node : asked) {
                answer.take(false, place, held[node].entries.get(place));
                answer.take(true, place / 8, held[node].wipes.get(place / 8));
            }
            for (int node : asked) {
                held[node].take(false, place, answer.entries.get(place));
                held[node].take(true, place / 8, answer.wipes.get(place / 8));
            }
            return answer.live(place);
        }

        long sum(int partition, int level) {
            if (!in(partition, 0, 7)) {
                return NONE;
            }
            long sum = 0;
            for (int cell = 0; cell < 8; cell++) {
                long value = read(8 * partition + cell, level);
                if (value == NONE) {
                    return NONE;
                }
                sum += value == ABSENT ? 0 : value;
            }
            return sum;
        }

        int down(int node) {
            if (!in(node, 0, 3)) {
                return REFUSED;
            }
            int answer = up[node] ? 1 : 0;
            up[node] = false;
            return answer;
        }

        int up(int node) {
            if (!in(node, 0, 3)) {
                return REFUSED;
            }
            if (up[node]) {
                return 0;
            }
            up[node] = true;
            int before = hints.size();
            for (Hint hint : hints) {
                if (hint.node == node) {
                    held[node].take(hint.isWipe, hint.key, hint.item);
                }
            }
            hints.removeIf(hint -> hint.node == node);
            return before - hints.size() + 1;
        }

        int crash(int node) {
            if (!in(node, 0, 3)) {
                return REFUSED;
            }
            held[node] = flushed[node].copy();
            up[node] = false;
            return held[node].entries.size();
        }

        int flush(int node) {
            if (!in(node, 0, 3) || !up[node]) {
                return in(node, 0, 3) ? UNAVAILABLE : REFUSED;
            }
            flushed[node] = held[node].copy();
            return held[node].entries.size();
        }

        int compact(int node, int before) {
            if (!in(node, 0, 3) || !up[node]) {
                return in(node, 0, 3) ? UNAVAILABLE : REFUSED;
            }
            held[node].compact(before);
            flushed[node] = held[node].copy();
            return held[node].entries.size();
        }

        int repair(int a, int b) {
            if (!in(a, 0, 3) || !in(b, 0, 3) || a == b) {
                return REFUSED;
            }
            if (!up[a] || !up[b]) {
                return UNAVAILABLE;
            }
            Content ofA = held[a].copy();
            Content ofB = held[b].copy();
            return takeShared(a, b, ofB) + takeShared(b, a, ofA);
        }

        private int takeShared(int node, int other, Content content) {
            int changes = 0;
            for (int partition = 0; partition < 8; partition++) {
                if (!replicas(partition).containsAll(List.of(node, other))) {
                    continue;
                }
                changes += held[node].take(true, partition, content.wipes.get(partition)) ? 1 : 0;
                for (int place = 8 * partition; place < 8 * partition + 8; place++) {
                    changes += held[node].take(false, place, content.entries.get(place)) ? 1 : 0;
                }
            }
            return changes;
        }

        int isUp(int node) {
            return !in(node, 0, 3) ? REFUSED : up[node] ? 1 : 0;
        }

        long local(int node, int place) {
            return !in(node, 0, 3) || !in(place, 0, 63) ? NONE : held[node].live(place);
        }

        long stampOf(boolean isWipe, int node, int key) {
            if (!in(node, 0, 3) || !in(key, 0, isWipe ? 7 : 63)) {
                return NONE;
            }
            Item item = held[node].part(isWipe).get(key);
            return item == null ? ABSENT : item.stamp;
        }
    }

    /** Numbers that are the same on every machine and in every run of the test. */
    private static final class Numbers {
        private long state;

        Numbers(int seed) {
            state = seed * 0x9E3779B97F4A7C15L + 1;
        }

        int below(int bound) {
            state = state * 6364136223846793005L + 1442695040888963407L;
            return (int) ((state >>> 33) % bound);
        }

        /** Mostly 0 .. bound - 1, now and then out of range. */
        int oftenBelow(int bound) {
            int[] outside = {-1, bound, Integer.MIN_VALUE, Integer.MAX_VALUE};
            return below(60) == 0 ? outside[below(4)] : below(bound);
        }

        int level() {
            return below(60) == 0 ? (below(2) == 0 ? 0 : 4) : 1 + below(3);
        }

        /** Few different ones, so that equal stamps and values meet; now and then the ends of int. */
        int small(int bound) {
            if (below(40) == 0) {
                return below(2) == 0 ? Integer.MIN_VALUE : Integer.MAX_VALUE;
            }
            return below(bound) - bound / 4;
        }
    }

    private static boolean same(int run, int call, String what, long got, long want) {
        // A line is made only for a wrong answer: there are more than a million right ones.
        return got == want || due("run " + run + ", call " + call + ": " + what, got, want);
    }

    public static void main(String[] args) {
        about("as the model");
        for (int run = 0; run < RUNS && allAsDue(); run++) {
            run(run);
        }
        end();
    }

    private static void run(int run) {
        Numbers numbers = new Numbers(run);
        int hints = run % 5 - 1;
        Model model = new Model(hints);
        QuorumCells cells = new QuorumCells(hints);
        // The fewer places are used, the more often calls meet; the more stamps, the more is kept.
        int places = run % 3 == 0 ? 64 : run % 3 == 1 ? 10 : 3;
        int stamps = run % 2 == 0 ? 6 : 60;
        boolean isShort = run % 4 < 2;
        int calls = isShort ? SHORT_RUN : LONG_RUN;
        for (int call = 1; call <= calls; call++) {
            if (!step(run, call, numbers, cells, model, places, stamps)) {
                return;
            }
        }
        if (isShort) {
            lookAtAll(run, cells, model);
        }
    }

    private static boolean step(int run, int call, Numbers n, QuorumCells x, Model m, int places, int stamps) {
        int place = n.below(4) == 0 ? n.oftenBelow(64) : n.below(places);
        int partition = n.below(4) == 0 ? n.oftenBelow(8) : n.below((places + 7) / 8);
        int node = n.oftenBelow(4);
        int other = n.oftenBelow(4);
        int level = n.level();
        int stamp = n.small(stamps);
        int value = n.small(8);
        String numbers = " (place " + place + ", partition " + partition + ", nodes " + node + " " + other
            + ", level " + level + ", stamp " + stamp + ", value " + value + ")";
        int kind = n.below(44);
        if (kind < 10) {
            Item item = new Item(stamp, value);
            return same(run, call, "write" + numbers, x.write(place, value, stamp, level), m.send(false, place, item, level));
        }
        if (kind < 13) {
            Item item = new Item(stamp, null);
            return same(run, call, "erase" + numbers, x.erase(place, stamp, level), m.send(false, place, item, level));
        }
        if (kind < 15) {
            Item item = new Item(stamp, null);
            return same(run, call, "wipe" + numbers, x.wipe(partition, stamp, level), m.send(true, partition, item, level));
        }
        if (kind < 19) {
            return same(run, call, "read" + numbers, x.read(place, level), m.read(place, level));
        }
        if (kind < 21) {
            return same(run, call, "sum" + numbers, x.sum(partition, level), m.sum(partition, level));
        }
        if (kind < 24) {
            return same(run, call, "down" + numbers, x.down(node), m.down(node));
        }
        if (kind < 29) {
            return same(run, call, "up" + numbers, x.up(node), m.up(node));
        }
        if (kind < 30) {
            return same(run, call, "crash" + numbers, x.crash(node), m.crash(node));
        }
        if (kind < 32) {
            return same(run, call, "flush" + numbers, x.flush(node), m.flush(node));
        }
        if (kind < 33) {
            return same(run, call, "compact" + numbers, x.compact(node, stamp), m.compact(node, stamp));
        }
        if (kind < 35) {
            return same(run, call, "repair" + numbers, x.repair(node, other), m.repair(node, other));
        }
        if (kind < 36) {
            return same(run, call, "isUp" + numbers, x.isUp(node), m.isUp(node));
        }
        if (kind < 38) {
            return same(run, call, "local" + numbers, x.local(node, place), m.local(node, place));
        }
        if (kind < 40) {
            return same(run, call, "stamp" + numbers, x.stamp(node, place), m.stampOf(false, node, place));
        }
        if (kind < 42) {
            return same(run, call, "wiped" + numbers, x.wiped(node, partition), m.stampOf(true, node, partition));
        }
        return same(run, call, "hints", x.hints(), m.hints.size());
    }

    /** 412 calls: of each node 48 places, as a stamp and as a value, 6 wipes, and whether it is up. */
    private static void lookAtAll(int run, QuorumCells x, Model m) {
        for (int partition = 0; partition < 8; partition++) {
            for (int node : Model.replicas(partition)) {
                String where = " of node " + node + " at ";
                long wipe = m.stampOf(true, node, partition);
                same(run, SHORT_RUN, "wiped" + where + partition, x.wiped(node, partition), wipe);
                for (int place = 8 * partition; place < 8 * partition + 8; place++) {
                    long stamp = m.stampOf(false, node, place);
                    same(run, SHORT_RUN, "stamp" + where + place, x.stamp(node, place), stamp);
                    same(run, SHORT_RUN, "local" + where + place, x.local(node, place), m.local(node, place));
                }
            }
        }
        for (int node = 0; node < 4; node++) {
            same(run, SHORT_RUN, "isUp of " + node, x.isUp(node), m.isUp(node));
        }
    }
}
