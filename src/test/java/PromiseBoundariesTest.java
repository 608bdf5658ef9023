/**
 * One test of its own for each sentence of the promises that names a boundary case. Each begins with the sentence.
 * What all promises have in common (numbers out of range, too few replicas up) is in TermsBoundariesTest.
 */
public final class PromiseBoundariesTest extends Checks {
    public static void main(String[] args) {
        hintsAreKeptUnlessZero();
        sendsReachThoseUpAndHintTheOthers();
        sendsHintInTheOrderOfReplicas();
        sendsAnswerHowManyAreUp();
        readAsksTheFirstThatAreUp();
        readTakesTheNewestOfEachKind();
        readTakesInWhatThereIs();
        readAnswersTheValueOrAbsent();
        readAnswersNoneForBoth();
        sumDoesTheSameWithAllPlaces();
        sumIsALong();
        sumAnswersNoneAsRead();
        downOfADownNode();
        downKeepsWhatItHolds();
        upOfAnUpNode();
        upTakesItsHintsInAndTheyGo();
        upAnswersTheirNumberPlusOne();
        crashOfUpAndDownNodes();
        crashAnswersEntriesOfAnyKind();
        flushIsFromNowOn();
        flushAnswersEntriesOfAnyKind();
        flushOfADownNode();
        compactDropsAllHidden();
        compactDropsDeadBelow();
        compactDropsWipesBelow();
        compactDropsInThisOrder();
        compactFlushesWhatIsLeft();
        compactAnswersEntriesLeft();
        compactOfADownNode();
        repairOfTheSameNode();
        repairOfNodesThatAreDown();
        repairOfSharedPartitionsAlone();
        repairAnswersChangesOfBoth();
        isUpIsOneOrZero();
        localIsOfUpAndDownNodes();
        localIsNoneOutOfRange();
        stampIsOfAnyEntry();
        stampIsAbsentOrNone();
        wipedIsAbsentOrNone();
        hintsCountsThemAll();
        end();
    }

    // 1

    private static void hintsAreKeptUnlessZero() {
        about("promise 1: \"whether hints are kept at all: 0 no, any other yes\"");
        int[] arguments = {0, 1, -1, 2, 12, 13, 256, 65536, LEAST, GREATEST};
        for (int argument : arguments) {
            QuorumCells x = new QuorumCells(argument);
            x.down(0);
            x.down(1);
            for (int cell = 0; cell < 8; cell++) {
                due("write, hints " + argument, x.write(cell, 5, 1, 1), 1);
            }
            due("hints " + argument, x.hints(), argument == 0 ? 0 : 12);
            due("up, hints " + argument, x.up(0), argument == 0 ? 1 : 7);
            due("entries, hints " + argument, x.flush(0), argument == 0 ? 0 : 6);
        }
    }

    // 2, 3, 4

    private static final int WRITE = 0;
    private static final int ERASE = 1;
    private static final int WIPE = 2;
    private static final String[] SENDS = {"write", "erase", "wipe"};

    /** To the first cell of the partition, or to all of it. */
    private static int send(QuorumCells x, int kind, int partition, int stamp, int level) {
        if (kind == WRITE) {
            return x.write(8 * partition, 5, stamp, level);
        }
        return kind == ERASE ? x.erase(8 * partition, stamp, level) : x.wipe(partition, stamp, level);
    }

    private static long sent(QuorumCells x, int kind, int partition, int node) {
        return kind == WIPE ? x.wiped(node, partition) : x.stamp(node, 8 * partition);
    }

    private static void sendsReachThoseUpAndHintTheOthers() {
        about("promises 2 to 4: \"Every replica of the place's partition that is up takes the entry (stamp, value) in; for"
            + " each that is down, in their order, a hint with it is added.\"");
        for (int kind = WRITE; kind <= WIPE; kind++) {
            for (int partition = 0; partition < 8; partition++) {
                for (int downMask = 0; downMask < 16; downMask++) {
                    reachesThoseUp(kind, partition, downMask);
                }
            }
        }
    }

    private static void reachesThoseUp(int kind, int partition, int downMask) {
        int upCount = countUp(partition, downMask);
        QuorumCells x = new QuorumCells(1);
        goDown(x, downMask);
        String what = SENDS[kind] + " to " + partition + " with mask " + downMask;
        due(what, send(x, kind, partition, 7, 1), upCount == 0 ? UNAVAILABLE : upCount);
        due(what + ": hints", x.hints(), upCount == 0 ? 0 : 3 - upCount);
        for (int node = 0; node < 4; node++) {
            boolean isReached = upCount > 0 && isReplica(node, partition);
            boolean isUp = !isIn(downMask, node);
            due(what + ": on " + node, sent(x, kind, partition, node), isReached && isUp ? 7 : ABSENT);
            x.up(node);
            due(what + ": on " + node + " with its hint", sent(x, kind, partition, node), isReached ? 7 : ABSENT);
        }
    }

    private static void goDown(QuorumCells x, int mask) {
        for (int node = 0; node < 4; node++) {
            if (isIn(mask, node)) {
                x.down(node);
            }
        }
    }

    private static void sendsHintInTheOrderOfReplicas() {
        about("promises 2 to 4: \"for each that is down, in their order, a hint with it is added\"");
        for (int kind = WRITE; kind <= WIPE; kind++) {
            for (int partition = 0; partition < 8; partition++) {
                hintsInOrder(kind, partition, 0, 1);
                hintsInOrder(kind, partition, 0, 2);
                hintsInOrder(kind, partition, 1, 2);
            }
        }
    }

    /** Eleven more hints for one of the two nodes alone: of the two hints of the call then the first is gone. */
    private static void hintsInOrder(int kind, int partition, int firstRank, int secondRank) {
        int first = REPLICAS[partition][firstRank];
        int second = REPLICAS[partition][secondRank];
        QuorumCells x = new QuorumCells(1);
        x.down(first);
        x.down(second);
        String what = SENDS[kind] + " to " + partition + ", hints for " + first + " and " + second;
        due(what, send(x, kind, partition, 7, 1), 1);
        // The partition after the node's number is on all nodes but this one.
        int withoutSecond = (second + 1) % 4;
        for (int i = 0; i < 11; i++) {
            x.write(8 * withoutSecond + 7, 1, 1, 1);
        }
        due(what + ": up of the first", x.up(first), 12);
        due(what + ": the first", sent(x, kind, partition, first), ABSENT);
        due(what + ": up of the second", x.up(second), 2);
        due(what + ": the second", sent(x, kind, partition, second), 7);
    }

    private static void sendsAnswerHowManyAreUp() {
        about("promises 2 to 4: \"Answers how many replicas are up, or UNAVAILABLE.\"");
        for (int kind = WRITE; kind <= WIPE; kind++) {
            for (int level = 1; level <= 3; level++) {
                QuorumCells x = new QuorumCells(1);
                // Partition 7 is on 3, 0 and 1.
                String what = SENDS[kind] + " with level " + level;
                due(what + ", three up", send(x, kind, 7, 9, level), 3);
                due(what + ", an older one", send(x, kind, 7, 8, level), 3);
                x.down(2);
                due(what + ", no replica down", send(x, kind, 7, 9, level), 3);
                x.down(0);
                due(what + ", two up", send(x, kind, 7, 9, level), level <= 2 ? 2 : UNAVAILABLE);
                x.crash(3);
                due(what + ", one up", send(x, kind, 7, 9, level), level <= 1 ? 1 : UNAVAILABLE);
                x.down(1);
                due(what + ", none up", send(x, kind, 7, 9, level), UNAVAILABLE);
                x.up(1);
                due(what + ", one up again", send(x, kind, 7, 9, level), level <= 1 ? 1 : UNAVAILABLE);
            }
        }
    }

    // 5

    /** Each replica has a value and a wipe of its own; the newest is on the replica of the rank. */
    private static QuorumCells newestOn(int rank, int partition) {
        QuorumCells x = new QuorumCells(0);
        goDown(x, 15);
        for (int each = 0; each < 3; each++) {
            int node = REPLICAS[partition][each];
            int stamp = stampOfRank(rank, each);
            x.up(node);
            x.write(8 * partition, stamp, stamp, 1);
            x.wipe(partition, stamp - 5, 1);
            x.down(node);
        }
        for (int node = 0; node < 4; node++) {
            x.up(node);
        }
        return x;
    }

    private static int stampOfRank(int newestRank, int rank) {
        return rank == newestRank ? 20 : 10 + rank;
    }

    private static void readAsksTheFirstThatAreUp() {
        about("promise 5: \"Asks the first replicas that are up, as many as the level, in their order.\"");
        for (int newestRank = 0; newestRank < 3; newestRank++) {
            for (int partition = 0; partition < 8; partition++) {
                for (int downMask = 0; downMask < 16; downMask++) {
                    for (int level = 1; level <= countUp(partition, downMask); level++) {
                        asksTheFirst(newestRank, partition, downMask, level);
                    }
                }
            }
        }
    }

    private static void asksTheFirst(int newestRank, int partition, int downMask, int level) {
        QuorumCells x = newestOn(newestRank, partition);
        goDown(x, downMask);
        boolean[] isAsked = new boolean[3];
        int asked = 0;
        int newest = 0;
        for (int rank = 0; rank < 3; rank++) {
            if (asked < level && !isIn(downMask, REPLICAS[partition][rank])) {
                isAsked[rank] = true;
                asked++;
                newest = Integer.max(newest, stampOfRank(newestRank, rank));
            }
        }
        String what = "partition " + partition + ", newest on rank " + newestRank + ", mask " + downMask + ", level " + level;
        due(what, x.read(8 * partition, level), newest);
        for (int rank = 0; rank < 3; rank++) {
            int node = REPLICAS[partition][rank];
            int held = isAsked[rank] ? newest : stampOfRank(newestRank, rank);
            due(what + ": entry of " + node, x.stamp(node, 8 * partition), held);
            due(what + ": wipe of " + node, x.wiped(node, partition), held - 5);
        }
        due(what + ": the fourth node", x.stamp((partition + 3) % 4, 8 * partition), ABSENT);
    }

    private static void readTakesTheNewestOfEachKind() {
        about("promise 5: \"The newest entry among theirs at the place and the newest wipe among theirs of the partition are"
            + " the answer's\"");
        // The newest entry on the one, the newest wipe on the other: partition 0 is on 0, 1, 2.
        for (int wipe = 8; wipe <= 10; wipe++) {
            QuorumCells x = new QuorumCells(0);
            x.down(1);
            x.down(2);
            x.write(0, 5, 9, 1);
            x.wipe(0, 1, 1);
            x.up(1);
            x.down(0);
            x.write(0, 6, 2, 1);
            x.wipe(0, wipe, 1);
            x.up(0);
            due("stamp 9 and wipe " + wipe, x.read(0, 2), wipe < 9 ? 5 : ABSENT);
            for (int node = 0; node < 2; node++) {
                due("entry of " + node, x.stamp(node, 0), 9);
                due("wipe of " + node, x.wiped(node, 0), wipe);
            }
        }
    }

    private static void readTakesInWhatThereIs() {
        about("promise 5: \"each of them takes both in (where there is one)\"");
        for (int level = 1; level <= 3; level++) {
            QuorumCells none = new QuorumCells(1);
            due("neither, level " + level, none.read(5, level), ABSENT);
            QuorumCells wipe = new QuorumCells(1);
            wipe.wipe(0, LEAST, 1);
            due("a wipe alone, level " + level, wipe.read(5, level), ABSENT);
            QuorumCells entry = new QuorumCells(1);
            entry.write(5, LEAST, LEAST, 1);
            due("an entry alone, level " + level, entry.read(5, level), LEAST);
            for (int node = 0; node < 3; node++) {
                due("neither: entry of " + node, none.stamp(node, 5), ABSENT);
                due("neither: wipe of " + node, none.wiped(node, 0), ABSENT);
                due("a wipe alone: entry of " + node, wipe.stamp(node, 5), ABSENT);
                due("a wipe alone: wipe of " + node, wipe.wiped(node, 0), LEAST);
                due("an entry alone: entry of " + node, entry.stamp(node, 5), LEAST);
                due("an entry alone: wipe of " + node, entry.wiped(node, 0), ABSENT);
                due("neither: entries of " + node, none.flush(node), 0);
                due("a wipe alone: entries of " + node, wipe.flush(node), 0);
                due("an entry alone: entries of " + node, entry.flush(node), 1);
            }
        }
    }

    private static void readAnswersTheValueOrAbsent() {
        about("promise 5: \"The entry's value if it is LIVE, that is not DEAD and not hidden by that wipe; else ABSENT\"");
        int[] values = {LEAST, REFUSED, UNAVAILABLE, 0, 1, GREATEST};
        for (int value : values) {
            QuorumCells x = new QuorumCells(1);
            due("none", x.read(63, 3), ABSENT);
            x.write(63, value, 5, 1);
            due("live " + value, x.read(63, 3), value);
            x.wipe(7, 4, 1);
            due("live above a wipe " + value, x.read(63, 3), value);
            x.wipe(7, 5, 1);
            due("hidden " + value, x.read(63, 3), ABSENT);
            x.write(63, value, 6, 1);
            due("live again " + value, x.read(63, 3), value);
            x.erase(63, 6, 1);
            due("DEAD " + value, x.read(63, 3), ABSENT);
        }
    }

    private static void readAnswersNoneForBoth() {
        about("promise 5: \"UNAVAILABLE and REFUSED are answered as NONE\"");
        QuorumCells x = new QuorumCells(1);
        x.write(0, 5, 1, 1);
        due("refused for the place", x.read(64, 1), NONE);
        due("refused for the place", x.read(-1, 1), NONE);
        due("refused for the level", x.read(0, 0), NONE);
        due("refused for the level", x.read(0, 4), NONE);
        x.down(1);
        due("unavailable", x.read(0, 3), NONE);
        due("not unavailable", x.read(0, 2), 5);
        due("both", x.read(64, 3), NONE);
        goDown(x, 15);
        due("none is up", x.read(0, 1), NONE);
    }

    // 6

    private static void sumDoesTheSameWithAllPlaces() {
        about("promise 6: \"Does the same as read with all 8 places of the partition in order, each with this level\"");
        for (int downMask = 0; downMask < 16; downMask++) {
            for (int partition = 0; partition < 8; partition++) {
                for (int level = 1; level <= countUp(partition, downMask); level++) {
                    sumsAsRead(downMask, partition, level);
                }
            }
        }
    }

    private static void sumsAsRead(int downMask, int partition, int level) {
        QuorumCells summed = busy(downMask);
        QuorumCells read = busy(downMask);
        long sum = 0;
        for (int place = 8 * partition; place < 8 * partition + 8; place++) {
            long value = read.read(place, level);
            sum += value == ABSENT ? 0 : value;
        }
        String what = "partition " + partition + ", level " + level + ", mask " + downMask;
        due(what, summed.sum(partition, level), sum);
        for (int node = 0; node < 4; node++) {
            due(what + ": wipe of " + node, summed.wiped(node, partition), read.wiped(node, partition));
            for (int place = 0; place < 64; place++) {
                due(what + ": " + place + " of " + node, summed.stamp(node, place), read.stamp(node, place));
            }
        }
    }

    private static void sumIsALong() {
        about("promise 6: \"answers the sum of the values, as a long (0 for none)\"");
        for (int partition = 0; partition < 8; partition++) {
            QuorumCells x = new QuorumCells(1);
            due("none", x.sum(partition, 3), 0);
            for (int cell = 0; cell < 8; cell++) {
                x.write(8 * partition + cell, GREATEST, 1, 1);
                due("greatest values to cell " + cell, x.sum(partition, 3), (cell + 1L) * GREATEST);
            }
            for (int cell = 0; cell < 8; cell++) {
                x.write(8 * partition + cell, LEAST, 2, 1);
            }
            due("least values", x.sum(partition, 3), 8L * LEAST);
            x.erase(8 * partition, 2, 1);
            x.erase(8 * partition + 7, 2, 1);
            due("six of them", x.sum(partition, 3), 6L * LEAST);
            x.wipe(partition, 2, 1);
            due("all hidden or DEAD", x.sum(partition, 3), 0);
        }
    }

    private static void sumAnswersNoneAsRead() {
        about("promise 6: \"NONE as there\"");
        QuorumCells x = new QuorumCells(1);
        x.write(0, 5, 1, 1);
        due("refused for the partition", x.sum(8, 1), NONE);
        due("refused for the partition", x.sum(-1, 1), NONE);
        due("refused for the level", x.sum(0, 0), NONE);
        due("refused for the level", x.sum(0, 4), NONE);
        x.down(1);
        due("unavailable", x.sum(0, 3), NONE);
        due("not unavailable", x.sum(0, 2), 5);
        goDown(x, 15);
        due("none is up", x.sum(0, 1), NONE);
    }

    // 7

    private static void downOfADownNode() {
        about("promise 7: \"The node goes down: 1; 0 if it is down already.\"");
        for (int node = 0; node < 4; node++) {
            int each = node;
            changesNothing("down of " + node, 1 << node, x -> x.down(each), 0);
            changesNothing("down of " + node, 15, x -> x.down(each), 0);
            QuorumCells x = busy(0);
            due("up, node " + node, x.down(node), 1);
            due("isUp, node " + node, x.isUp(node), 0);
            due("down, node " + node, x.down(node), 0);
            due("again, node " + node, x.down(node), 0);
            due("isUp, node " + node, x.isUp(node), 0);
            x.up(node);
            due("up again, node " + node, x.down(node), 1);
            x.crash(node);
            due("crashed, node " + node, x.down(node), 0);
        }
    }

    private static void downKeepsWhatItHolds() {
        about("promise 7: \"It keeps what it holds.\"");
        for (int node = 0; node < 4; node++) {
            QuorumCells x = busy(0);
            QuorumCells y = busy(0);
            x.down(node);
            for (int place = 0; place < 64; place++) {
                due("down, place " + place + " of " + node, x.stamp(node, place), y.stamp(node, place));
                due("down, place " + place + " of " + node, x.local(node, place), y.local(node, place));
            }
            for (int partition = 0; partition < 8; partition++) {
                due("down, wipe " + partition + " of " + node, x.wiped(node, partition), y.wiped(node, partition));
            }
            due("up again, node " + node, x.up(node), 1);
            due("entries of " + node, x.flush(node), y.flush(node));
        }
    }

    // 8

    private static void upOfAnUpNode() {
        about("promise 8: \"0 if the node is up already.\"");
        for (int downMask = 0; downMask < 16; downMask++) {
            for (int node = 0; node < 4; node++) {
                int each = node;
                if (!isIn(downMask, node)) {
                    changesNothing("up of " + node, downMask, x -> x.up(each), 0);
                }
            }
        }
    }

    private static void upTakesItsHintsInAndTheyGo() {
        about("promise 8: \"Else it is up, takes in what the hints for it hold, and these hints go\"");
        // Partition 2 is on 2, 3, 0.
        QuorumCells x = new QuorumCells(1);
        x.write(16, 1, 5, 1);
        x.wipe(2, 3, 1);
        x.down(2);
        x.down(3);
        x.write(16, 2, 5, 1);
        x.write(17, 3, 4, 1);
        x.wipe(2, 4, 1);
        due("for two nodes", x.hints(), 6);
        due("up", x.up(3), 4);
        due("isUp", x.isUp(3), 1);
        due("the other isn't", x.isUp(2), 0);
        due("its hints went", x.hints(), 3);
        due("a greater value", x.local(3, 16), 2);
        due("one that is hidden", x.stamp(3, 17), 4);
        due("the wipe", x.wiped(3, 2), 4);
        due("nothing for the other", x.local(2, 16), 1);
        due("nor a wipe", x.wiped(2, 2), 3);
        x.down(3);
        due("they don't come again", x.up(3), 1);
        due("the other's are still there", x.up(2), 4);
        due("a greater value", x.local(2, 16), 2);
        due("the wipe", x.wiped(2, 2), 4);
        due("none is left", x.hints(), 0);
    }

    private static void upAnswersTheirNumberPlusOne() {
        about("promise 8: \"answers their number plus 1\"");
        for (int count = 0; count <= 14; count++) {
            QuorumCells x = new QuorumCells(1);
            x.write(0, 5, 5, 1);
            x.down(0);
            for (int i = 0; i < count; i++) {
                // Older than what it holds: such a hint counts, too.
                x.write(0, 5, 4, 1);
            }
            due("with " + count, x.up(0), Integer.min(count, 12) + 1);
            due("it holds the newer", x.stamp(0, 0), 5);
        }
        QuorumCells none = new QuorumCells(0);
        none.down(0);
        none.write(0, 5, 5, 1);
        due("hints aren't kept", none.up(0), 1);
        QuorumCells others = new QuorumCells(1);
        others.down(0);
        others.down(3);
        others.write(0, 5, 5, 1);
        due("for another node alone", others.up(3), 1);
    }

    // 9

    private static void crashOfUpAndDownNodes() {
        about("promise 9: \"The node, up or down, loses what it holds and holds its FLUSHED content; it is down.\"");
        for (int downMask = 0; downMask <= 1; downMask++) {
            QuorumCells x = new QuorumCells(1);
            x.write(0, 1, 1, 1);
            x.wipe(4, 1, 1);
            x.flush(0);
            x.write(0, 2, 2, 1);
            x.erase(1, 2, 1);
            x.wipe(4, 2, 1);
            x.wipe(0, 1, 1);
            goDown(x, downMask);
            String what = "mask " + downMask;
            due(what, x.crash(0), 1);
            due(what + ": isUp", x.isUp(0), 0);
            due(what + ": value", x.local(0, 0), 1);
            due(what + ": stamp", x.stamp(0, 0), 1);
            due(what + ": an entry that wasn't flushed", x.stamp(0, 1), ABSENT);
            due(what + ": wipe", x.wiped(0, 4), 1);
            due(what + ": a wipe that wasn't flushed", x.wiped(0, 0), ABSENT);
            due(what + ": a second crash", x.crash(0), 1);
            due(what + ": the flushed content is still there", x.local(0, 0), 1);
            due(what + ": another node", x.local(1, 0), 2);
            due(what + ": which is up", x.isUp(1), 1);
        }
    }

    private static void crashAnswersEntriesOfAnyKind() {
        about("promise 9: \"Answers how many of the 64 places then have an entry on it.\"");
        due("nothing", new QuorumCells(1).crash(0), 0);
        for (int node = 0; node < 4; node++) {
            QuorumCells x = full();
            due("nothing was flushed, node " + node, x.crash(node), 0);
            QuorumCells y = full();
            y.flush(node);
            due("all was flushed, node " + node, y.crash(node), 48);
            QuorumCells z = new QuorumCells(1);
            z.wipe(node, 1, 1);
            z.flush(node);
            due("a wipe is no entry, node " + node, z.crash(node), 0);
            due("but is there, node " + node, z.wiped(node, node), 1);
        }
    }

    /** Entries at all places: live ones, DEAD ones, hidden ones. */
    private static QuorumCells full() {
        QuorumCells x = new QuorumCells(1);
        for (int place = 0; place < 64; place++) {
            if (place % 2 == 0) {
                x.write(place, place, 5, 1);
            } else {
                x.erase(place, 5, 1);
            }
        }
        x.wipe(0, 5, 1);
        x.wipe(7, 5, 1);
        return x;
    }

    // 10

    private static void flushIsFromNowOn() {
        about("promise 10: \"The node, if it is up, has from now on as FLUSHED content what it holds\"");
        QuorumCells x = new QuorumCells(1);
        x.write(0, 1, 1, 1);
        due("first", x.flush(0), 1);
        x.write(0, 2, 2, 1);
        x.wipe(4, 2, 1);
        due("second", x.flush(0), 1);
        x.write(0, 3, 3, 1);
        x.write(1, 3, 3, 1);
        x.wipe(4, 3, 1);
        due("what came later isn't there", x.crash(0), 1);
        due("the second flush", x.local(0, 0), 2);
        due("with its wipe", x.wiped(0, 4), 2);
        x.up(0);
        x.write(1, 4, 4, 1);
        due("third", x.flush(0), 2);
        due("the third flush", x.crash(0), 2);
        due("with the later entry", x.local(0, 1), 4);
        due("no other node was flushed", x.crash(1), 0);
    }

    private static void flushAnswersEntriesOfAnyKind() {
        about("promise 10: \"answers how many of the 64 places have an entry on it\"");
        for (int node = 0; node < 4; node++) {
            QuorumCells x = new QuorumCells(1);
            due("nothing, node " + node, x.flush(node), 0);
            x.wipe(node, 1, 1);
            due("a wipe is no entry, node " + node, x.flush(node), 0);
            x.write(8 * node, 1, 1, 1);
            due("a hidden one, node " + node, x.flush(node), 1);
            x.erase(8 * node + 7, 2, 1);
            due("a DEAD one, node " + node, x.flush(node), 2);
            due("all, node " + node, full().flush(node), 48);
        }
    }

    private static void flushOfADownNode() {
        about("promise 10: \"Down: UNAVAILABLE.\"");
        for (int node = 0; node < 4; node++) {
            int each = node;
            changesNothing("flush of " + node, 1 << node, x -> x.flush(each), UNAVAILABLE);
            changesNothing("flush of " + node, 15, x -> x.flush(each), UNAVAILABLE);
            QuorumCells x = busy(15 - (1 << node));
            due("the only one that is up, node " + node, x.flush(node) > 0 ? 1 : 0, 1);
            x.crash(node);
            due("crashed, node " + node, x.flush(node), UNAVAILABLE);
        }
    }

    // 11

    private static void compactDropsAllHidden() {
        about("promise 11: \"all hidden entries on it go\"");
        // Whatever before is, and whether the wipe goes or stays.
        int[] befores = {LEAST, 4, 5, 6, GREATEST};
        for (int before : befores) {
            QuorumCells x = new QuorumCells(1);
            x.write(0, 1, LEAST, 1);
            x.write(1, 1, 4, 1);
            x.write(2, 1, 5, 1);
            x.write(3, 1, 6, 1);
            x.write(4, 1, GREATEST, 1);
            x.erase(5, 5, 1);
            x.write(8, 1, 4, 1);
            x.wipe(0, 5, 1);
            String what = "before " + before;
            due(what, x.compact(1, before), 3);
            due(what + ": far below the wipe", x.stamp(1, 0), ABSENT);
            due(what + ": below the wipe", x.stamp(1, 1), ABSENT);
            due(what + ": equal to the wipe", x.stamp(1, 2), ABSENT);
            due(what + ": above the wipe", x.stamp(1, 3), 6);
            due(what + ": far above the wipe", x.stamp(1, 4), GREATEST);
            due(what + ": DEAD and equal to the wipe", x.stamp(1, 5), ABSENT);
            due(what + ": of another partition", x.stamp(1, 8), 4);
            due(what + ": of another node", x.stamp(0, 0), LEAST);
        }
    }

    private static void compactDropsDeadBelow() {
        about("promise 11: \"then all DEAD entries with a stamp less than before\"");
        for (int before : NUMBERS) {
            for (int stamp : NUMBERS) {
                QuorumCells x = new QuorumCells(1);
                x.erase(0, stamp, 1);
                x.write(63, 5, stamp, 1);
                String what = "DEAD " + stamp + ", before " + before;
                due(what, x.compact(0, before), stamp < before ? 1 : 2);
                due(what + ": DEAD", x.stamp(0, 0), stamp < before ? ABSENT : stamp);
                due(what + ": a value stays", x.local(0, 63), 5);
                due(what + ": on another node", x.stamp(1, 0), stamp);
            }
        }
    }

    private static void compactDropsWipesBelow() {
        about("promise 11: \"then all wipes with a stamp less than before\"");
        for (int before : NUMBERS) {
            for (int stamp : NUMBERS) {
                QuorumCells x = new QuorumCells(1);
                x.wipe(0, stamp, 1);
                x.wipe(7, stamp, 1);
                String what = "wipe " + stamp + ", before " + before;
                due(what, x.compact(0, before), 0);
                due(what + ": first", x.wiped(0, 0), stamp < before ? ABSENT : stamp);
                due(what + ": last", x.wiped(0, 7), stamp < before ? ABSENT : stamp);
                due(what + ": on another node", x.wiped(1, 0), stamp);
            }
        }
    }

    private static void compactDropsInThisOrder() {
        about("promise 11: \"all hidden entries on it go; then all DEAD entries [..]; then all wipes\"");
        for (int partition = 0; partition < 8; partition++) {
            for (int node : REPLICAS[partition]) {
                QuorumCells x = new QuorumCells(1);
                x.write(8 * partition, 1, 5, 1);
                x.erase(8 * partition + 1, 5, 1);
                x.wipe(partition, 5, 1);
                String what = "partition " + partition + " of node " + node;
                due(what + ": hidden by a wipe that goes in the same call", x.compact(node, 6), 0);
                due(what + ": the wipe", x.wiped(node, partition), ABSENT);
                due(what + ": the value doesn't appear again", x.local(node, 8 * partition), ABSENT);
                x.write(8 * partition, 1, 4, 1);
                due(what + ": a later one isn't hidden", x.local(node, 8 * partition), 1);
            }
        }
    }

    private static void compactFlushesWhatIsLeft() {
        about("promise 11: \"What is left is also its FLUSHED content.\"");
        QuorumCells x = new QuorumCells(1);
        x.write(0, 1, 1, 1);
        x.erase(1, 3, 1);
        x.wipe(0, 2, 1);
        x.flush(0);
        x.write(2, 2, 5, 1);
        x.erase(3, 8, 1);
        x.wipe(4, 8, 1);
        due("two are left", x.compact(0, 8), 2);
        due("two come back", x.crash(0), 2);
        due("hidden and flushed before", x.stamp(0, 0), ABSENT);
        due("DEAD and flushed before", x.stamp(0, 1), ABSENT);
        due("a wipe flushed before", x.wiped(0, 0), ABSENT);
        due("live and not flushed before", x.local(0, 2), 2);
        due("DEAD and not flushed before", x.stamp(0, 3), 8);
        due("a wipe not flushed before", x.wiped(0, 4), 8);
        QuorumCells y = full();
        y.flush(0);
        y.compact(1, GREATEST);
        due("another node's flushed content", y.crash(0), 48);
    }

    private static void compactAnswersEntriesLeft() {
        about("promise 11: \"Answers how many of the 64 places have an entry.\"");
        for (int node = 0; node < 4; node++) {
            due("nothing, node " + node, new QuorumCells(1).compact(node, GREATEST), 0);
            int wiped = (isReplica(node, 0) ? 1 : 0) + (isReplica(node, 7) ? 1 : 0);
            due("without hidden ones, node " + node, full().compact(node, 5), 48 - 8 * wiped);
            due("without DEAD ones too, node " + node, full().compact(node, 6), 24 - 4 * wiped);
        }
    }

    private static void compactOfADownNode() {
        about("promise 11: \"Down: UNAVAILABLE.\"");
        for (int node = 0; node < 4; node++) {
            int each = node;
            changesNothing("compact of " + node, 1 << node, x -> x.compact(each, 50), UNAVAILABLE);
            changesNothing("compact of " + node, 15, x -> x.compact(each, GREATEST), UNAVAILABLE);
            QuorumCells x = full();
            x.crash(node);
            due("crashed, node " + node, x.compact(node, 50), UNAVAILABLE);
        }
    }

    // 12

    private static void repairOfTheSameNode() {
        about("promise 12: \"Two different nodes (the same: REFUSED)\"");
        for (int downMask = 0; downMask < 16; downMask++) {
            for (int node = 0; node < 4; node++) {
                int each = node;
                changesNothing("repair of " + node + " twice", downMask, x -> x.repair(each, each), REFUSED);
            }
        }
    }

    private static void repairOfNodesThatAreDown() {
        about("promise 12: \"both up, else UNAVAILABLE\"");
        for (int a = 0; a < 4; a++) {
            for (int b = 0; b < 4; b++) {
                for (int downMask = 0; downMask < 16; downMask++) {
                    int one = a;
                    int other = b;
                    if (a != b && (isIn(downMask, a) || isIn(downMask, b))) {
                        changesNothing("repair of " + a + " and " + b, downMask, x -> x.repair(one, other), UNAVAILABLE);
                    } else if (a != b) {
                        due("repair of " + a + " and " + b + " with mask " + downMask,
                            busy(downMask).repair(a, b) >= 0 ? 1 : 0, 1);
                    }
                }
            }
        }
    }

    private static void repairOfSharedPartitionsAlone() {
        about("promise 12: \"for every partition of which both are replicas, each takes in all entries and wipes of the"
            + " other\"");
        for (int a = 0; a < 4; a++) {
            for (int b = 0; b < 4; b++) {
                for (int partition = 0; a != b && partition < 8; partition++) {
                    repairsOne(a, b, partition);
                    repairsOne(b, a, partition);
                }
            }
        }
    }

    /** All of the partition is on all its replicas but b, which has nothing of it. */
    private static void repairsOne(int a, int b, int partition) {
        QuorumCells x = new QuorumCells(0);
        x.down(b);
        for (int place = 8 * partition; place < 8 * partition + 8; place++) {
            x.write(place, place, 4, 1);
        }
        x.wipe(partition, 4, 1);
        x.up(b);
        boolean isShared = isReplica(a, partition) && isReplica(b, partition);
        String what = "repair of " + a + " and " + b + ", partition " + partition;
        due(what, x.repair(a, b), isShared ? 9 : 0);
        for (int place = 8 * partition; place < 8 * partition + 8; place++) {
            due(what + ": " + place, x.stamp(b, place), isShared ? 4 : ABSENT);
        }
        due(what + ": wipe", x.wiped(b, partition), isShared ? 4 : ABSENT);
        for (int node = 0; node < 4; node++) {
            if (node != b) {
                due(what + ": node " + node, x.stamp(node, 8 * partition), isReplica(node, partition) ? 4 : ABSENT);
            }
        }
        due(what + ": again, the other way", x.repair(b, a), 0);
    }

    private static void repairAnswersChangesOfBoth() {
        about("promise 12: \"Answers how many entries and wipes were taken in that changed what a node holds (on both nodes"
            + " together).\"");
        due("nothing is held", new QuorumCells(1).repair(0, 1), 0);
        due("all is alike", full().repair(0, 1), 0);
        // Node 3 has cells 0 to 2 and a wipe, node 0 cells 2 to 7: partition 3 is on 3, 0, 1.
        QuorumCells x = new QuorumCells(0);
        x.down(0);
        x.down(1);
        for (int cell = 0; cell <= 2; cell++) {
            x.write(24 + cell, 5, 5, 1);
        }
        x.wipe(3, 5, 1);
        x.up(0);
        x.down(3);
        for (int cell = 2; cell <= 7; cell++) {
            x.write(24 + cell, 5, 5, 1);
        }
        x.up(3);
        x.up(1);
        due("two and a wipe to 0, five to 3", x.repair(0, 3), 8);
        due("then nothing", x.repair(3, 0), 0);
        due("all to 1", x.repair(1, 0), 9);
        // An entry on either side that is newer than the other's counts once.
        QuorumCells y = new QuorumCells(0);
        y.write(24, 5, 5, 1);
        y.write(25, 5, 5, 1);
        y.down(0);
        y.write(24, 6, 5, 1);
        y.up(0);
        y.down(3);
        y.erase(25, 5, 1);
        y.up(3);
        due("a greater value to 0, a DEAD one to 3", y.repair(0, 3), 2);
        due("the greater value", y.local(0, 24), 6);
        due("the DEAD one", y.local(3, 25), ABSENT);
    }

    // 13

    private static void isUpIsOneOrZero() {
        about("promise 13: \"1 if the node is up, 0 if it is down\"");
        for (int downMask = 0; downMask < 16; downMask++) {
            QuorumCells x = new QuorumCells(1);
            goDown(x, downMask);
            for (int node = 0; node < 4; node++) {
                due("node " + node + " with mask " + downMask, x.isUp(node), isIn(downMask, node) ? 0 : 1);
            }
        }
        for (int node : WRONG_NODES) {
            due("node " + node, new QuorumCells(1).isUp(node), REFUSED);
        }
    }

    // 14

    private static void localIsOfUpAndDownNodes() {
        about("promise 14: \"What the node holds at the place, up or down: the value, if the entry is LIVE; else ABSENT.\"");
        for (int downMask = 0; downMask < 16; downMask += 15) {
            QuorumCells x = new QuorumCells(1);
            x.write(0, -1, 6, 1);
            x.write(1, 0, 5, 1);
            x.erase(63, 5, 1);
            x.wipe(0, 5, 1);
            goDown(x, downMask);
            for (int node = 0; node < 4; node++) {
                String what = "node " + node + ", mask " + downMask;
                due(what + ": live", x.local(node, 0), node == 3 ? ABSENT : -1);
                due(what + ": hidden", x.local(node, 1), ABSENT);
                due(what + ": DEAD", x.local(node, 63), ABSENT);
                due(what + ": nothing", x.local(node, 2), ABSENT);
            }
        }
    }

    private static void localIsNoneOutOfRange() {
        about("promise 14: \"NONE for numbers out of range\"");
        QuorumCells x = full();
        for (int node : WRONG_NODES) {
            due("node " + node, x.local(node, 0), NONE);
            for (int place : WRONG_PLACES) {
                due("node " + node + ", place " + place, x.local(node, place), NONE);
            }
        }
        for (int place : WRONG_PLACES) {
            due("place " + place, x.local(3, place), NONE);
        }
        due("the last of both", x.local(3, 63), ABSENT);
        due("the first of both", x.local(0, 0), ABSENT);
    }

    // 15

    private static void stampIsOfAnyEntry() {
        about("promise 15: \"The stamp of the node's entry at the place (hidden, DEAD or not)\"");
        for (int stamp : NUMBERS) {
            QuorumCells x = new QuorumCells(1);
            x.write(56, 1, stamp, 1);
            due("live", x.stamp(3, 56), stamp);
            x.erase(63, stamp, 1);
            due("DEAD", x.stamp(3, 63), stamp);
            x.wipe(7, GREATEST, 1);
            due("hidden", x.stamp(3, 56), stamp);
            due("hidden and DEAD", x.stamp(3, 63), stamp);
            x.down(3);
            due("down", x.stamp(3, 56), stamp);
        }
    }

    private static void stampIsAbsentOrNone() {
        about("promise 15: \"ABSENT if there is none, NONE for numbers out of range\"");
        QuorumCells x = new QuorumCells(1);
        x.write(0, 1, 1, 1);
        x.wipe(0, 1, 1);
        due("none at the next place", x.stamp(0, 1), ABSENT);
        due("none at the last place", x.stamp(3, 63), ABSENT);
        due("none on the fourth node", x.stamp(3, 0), ABSENT);
        for (int node : WRONG_NODES) {
            due("node " + node, x.stamp(node, 0), NONE);
            for (int place : WRONG_PLACES) {
                due("node " + node + ", place " + place, x.stamp(node, place), NONE);
            }
        }
        for (int place : WRONG_PLACES) {
            due("place " + place, x.stamp(3, place), NONE);
        }
    }

    // 16

    private static void wipedIsAbsentOrNone() {
        about("promise 16: \"ABSENT if there is none, NONE for numbers out of range\"");
        QuorumCells x = new QuorumCells(1);
        x.wipe(0, LEAST, 1);
        x.wipe(7, GREATEST, 1);
        due("the first", x.wiped(0, 0), LEAST);
        due("the last", x.wiped(3, 7), GREATEST);
        due("none of another partition", x.wiped(0, 6), ABSENT);
        due("none on the fourth node", x.wiped(3, 0), ABSENT);
        x.write(8, 1, 1, 1);
        due("none, but an entry", x.wiped(1, 1), ABSENT);
        for (int node : WRONG_NODES) {
            due("node " + node, x.wiped(node, 0), NONE);
            for (int partition : WRONG_PARTITIONS) {
                due("node " + node + ", partition " + partition, x.wiped(node, partition), NONE);
            }
        }
        for (int partition : WRONG_PARTITIONS) {
            due("partition " + partition, x.wiped(3, partition), NONE);
        }
    }

    // 17

    private static void hintsCountsThemAll() {
        about("promise 17: \"How many hints there are.\"");
        QuorumCells x = new QuorumCells(1);
        due("none", x.hints(), 0);
        x.down(0);
        x.down(1);
        due("of nodes that are down, none", x.hints(), 0);
        x.write(0, 1, 1, 1);
        due("two", x.hints(), 2);
        x.write(0, 1, 1, 1);
        due("alike ones are two more", x.hints(), 4);
        x.erase(8, 1, 1);
        due("for one node", x.hints(), 5);
        x.wipe(3, 1, 1);
        due("wipes", x.hints(), 7);
        x.write(0, 1, 1, 2);
        due("an unavailable call adds none", x.hints(), 7);
        x.write(-1, 1, 1, 1);
        due("a refused call adds none", x.hints(), 7);
        x.up(1);
        due("those for one went", x.hints(), 3);
        x.up(0);
        due("none again", x.hints(), 0);
    }
}
