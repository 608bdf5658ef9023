/** For each promise of the document: ordinary inputs, the edges it names, and wrong inputs. */
public final class PromisesTest extends Checks {
    public static void main(String[] args) {
        about("promise 1");
        newObjectIsEmpty();
        newObjectKeepsHintsUnlessZero();
        newObjectsShareNothing();
        about("promise 2");
        writeReachesTheThreeReplicas();
        writeKeepsTheNewer();
        writeWithNodesDown();
        writeHintsInTheOrderOfReplicas();
        writeWithWrongNumbers();
        about("promise 3");
        eraseLeavesDeadEntries();
        eraseAgainstWrites();
        eraseWithNodesDown();
        eraseWithWrongNumbers();
        about("promise 4");
        wipeHidesUpToItsStamp();
        wipeKeepsTheNewer();
        wipeWithNodesDown();
        wipeWithWrongNumbers();
        about("promise 5");
        readAsksAsManyAsTheLevel();
        readSkipsNodesThatAreDown();
        readRepairsEntryAndWipe();
        readPrefersDeadAndGreaterValues();
        readUnavailableChangesNothing();
        readWithWrongNumbers();
        about("promise 6");
        sumAddsLiveValuesAsLong();
        sumRepairsAllPlacesAskedOnly();
        sumUnavailableAndWrongNumbers();
        about("promise 7");
        downKeepsWhatIsHeld();
        about("promise 8");
        upTakesHintsIn();
        upLeavesHintsOfOthers();
        about("promise 9");
        crashRestoresFlushedContent();
        crashOfADownNode();
        about("promise 10");
        flushKeepsEntriesAndWipes();
        flushOfADownNode();
        about("promise 11");
        compactDropsHiddenThenDeadThenWipes();
        compactBoundsAreStrict();
        compactOfEveryNode();
        compactFlushes();
        compactOfADownNodeAndWrongNumbers();
        about("promise 12");
        repairExchangesBothWays();
        repairSparesPartitionsNotShared();
        repairOfAllPairsCountsSharedPlaces();
        repairUnavailableAndRefused();
        about("promise 13");
        isUpTellsTheState();
        about("promise 14");
        localTellsLiveValues();
        about("promise 15");
        stampTellsAnyEntry();
        about("promise 16");
        wipedTellsTheWipe();
        about("promise 17");
        hintsAreTwelveAtMost();
        hintsThatWereDroppedAreTheOldest();
        end();
    }

    // 1

    private static void newObjectIsEmpty() {
        QuorumCells x = new QuorumCells(1);
        due("no hints", x.hints(), 0);
        for (int node = 0; node < 4; node++) {
            due("is up", x.isUp(node), 1);
            for (int partition = 0; partition < 8; partition++) {
                due("no wipe", x.wiped(node, partition), ABSENT);
            }
            for (int place = 0; place < 64; place++) {
                due("no entry", x.stamp(node, place), ABSENT);
            }
        }
        for (int node = 0; node < 4; node++) {
            due("nothing to flush", x.flush(node), 0);
            due("nothing was flushed", x.crash(node), 0);
        }
    }

    private static void newObjectKeepsHintsUnlessZero() {
        int[] arguments = {0, 1, -1, 12, 13, LEAST, GREATEST};
        for (int argument : arguments) {
            QuorumCells x = new QuorumCells(argument);
            boolean kept = argument != 0;
            x.down(0);
            x.write(0, 5, 1, 1);
            x.erase(1, 1, 1);
            x.wipe(4, 1, 1);
            due("hints with " + argument, x.hints(), kept ? 3 : 0);
            due("up with " + argument, x.up(0), kept ? 4 : 1);
            due("stamp with " + argument, x.stamp(0, 0), kept ? 1 : ABSENT);
            due("wiped with " + argument, x.wiped(0, 4), kept ? 1 : ABSENT);
        }
    }

    private static void newObjectsShareNothing() {
        QuorumCells x = new QuorumCells(1);
        QuorumCells y = new QuorumCells(1);
        x.write(0, 5, 1, 1);
        x.flush(0);
        x.down(1);
        x.write(0, 6, 2, 1);
        due("entry of the other", y.stamp(0, 0), ABSENT);
        due("state of the other", y.isUp(1), 1);
        due("hints of the other", y.hints(), 0);
        due("flushed content of the other", y.crash(0), 0);
    }

    // 2

    private static void writeReachesTheThreeReplicas() {
        for (int place = 0; place < 64; place++) {
            QuorumCells x = new QuorumCells(1);
            due("all replicas are up", x.write(place, 7, 3, 1 + place % 3), 3);
            int without = (place / 8 + 3) % 4;
            for (int node = 0; node < 4; node++) {
                due("stamp at " + place + " on " + node, x.stamp(node, place), node == without ? ABSENT : 3);
                due("value at " + place + " on " + node, x.local(node, place), node == without ? ABSENT : 7);
                due("entries on " + node, x.flush(node), node == without ? 0 : 1);
            }
        }
    }

    private static void writeKeepsTheNewer() {
        QuorumCells x = new QuorumCells(1);
        x.write(9, 5, 10, 1);
        due("an older write is answered alike", x.write(9, 6, 9, 1), 3);
        due("an older one isn't kept", x.local(1, 9), 5);
        x.write(9, 4, 10, 1);
        due("a smaller value at the same stamp isn't kept", x.local(1, 9), 5);
        x.write(9, 6, 10, 1);
        due("a greater value at the same stamp is", x.local(1, 9), 6);
        x.write(9, -8, 11, 1);
        due("a newer one is, with a smaller value", x.local(1, 9), -8);
        due("with its stamp", x.stamp(1, 9), 11);
        due("its neighbour has nothing", x.stamp(1, 10), ABSENT);

        x.write(0, LEAST, LEAST, 1);
        due("the least stamp is one", x.stamp(0, 0), LEAST);
        due("the least value is one", x.local(0, 0), LEAST);
        x.write(0, GREATEST, LEAST, 1);
        due("the greatest value beats the least", x.local(0, 0), GREATEST);
        x.write(0, LEAST, GREATEST, 1);
        due("the greatest stamp beats the least", x.stamp(0, 0), GREATEST);
        due("with the least value", x.local(0, 0), LEAST);
        x.write(0, 0, LEAST, 1);
        due("the least stamp doesn't beat the greatest", x.local(0, 0), LEAST);
        x.write(1, -1, -1, 1);
        x.write(1, 0, -2, 1);
        due("of stamps below 0 the greater wins", x.local(0, 1), -1);
    }

    private static void writeWithNodesDown() {
        QuorumCells x = new QuorumCells(1);
        x.down(3);
        due("the fourth node doesn't count", x.write(0, 1, 1, 3), 3);
        due("and gets no hint", x.hints(), 0);
        x.down(1);
        due("level 3 with two up", x.write(0, 2, 2, 3), UNAVAILABLE);
        due("nothing was written", x.stamp(0, 0), 1);
        due("nothing was hinted", x.hints(), 0);
        due("level 2 with two up", x.write(0, 2, 2, 2), 2);
        due("written", x.stamp(0, 0), 2);
        due("written", x.stamp(2, 0), 2);
        due("not on the node that is down", x.stamp(1, 0), 1);
        due("hinted", x.hints(), 1);
        x.down(0);
        due("level 2 with one up", x.write(0, 3, 3, 2), UNAVAILABLE);
        due("level 1 with one up", x.write(0, 3, 3, 1), 1);
        due("hinted for both", x.hints(), 3);
        x.down(2);
        due("level 1 with none up", x.write(0, 4, 4, 1), UNAVAILABLE);
        due("not hinted", x.hints(), 3);
    }

    private static void writeHintsInTheOrderOfReplicas() {
        // Partition 3 is on 3, 0 and 1: of each write the hint for 3 is older than that for 0.
        QuorumCells x = new QuorumCells(1);
        x.down(3);
        x.down(0);
        for (int cell = 0; cell < 6; cell++) {
            x.write(24 + cell, 1, 5, 1);
        }
        due("twelve hints", x.hints(), 12);
        // Partition 1 is on 1, 2 and 3: one more hint, for 3.
        x.write(8, 1, 5, 1);
        due("still twelve", x.hints(), 12);
        due("none for 0 went", x.up(0), 7);
        due("it has its first", x.stamp(0, 24), 5);
        due("one for 3 went and one came", x.up(3), 7);
        due("its first is gone", x.stamp(3, 24), ABSENT);
        due("its second isn't", x.stamp(3, 25), 5);
        due("its last isn't", x.stamp(3, 8), 5);
    }

    private static void writeWithWrongNumbers() {
        QuorumCells x = new QuorumCells(1);
        x.down(0);
        for (int place : WRONG_PLACES) {
            due("place " + place, x.write(place, 1, 1, 1), REFUSED);
        }
        for (int level : WRONG_LEVELS) {
            due("level " + level, x.write(0, 1, 1, level), REFUSED);
        }
        due("nothing was written", x.flush(1), 0);
        due("nothing was hinted", x.hints(), 0);
        x.down(1);
        x.down(2);
        due("numbers are tested before the nodes", x.write(0, 1, 1, 4), REFUSED);
    }

    // 3

    private static void eraseLeavesDeadEntries() {
        for (int place = 0; place < 64; place += 7) {
            QuorumCells x = new QuorumCells(1);
            due("erase where nothing is", x.erase(place, 4, 3), 3);
            int without = (place / 8 + 3) % 4;
            for (int node = 0; node < 4; node++) {
                due("stamp at " + place + " on " + node, x.stamp(node, place), node == without ? ABSENT : 4);
                due("no value", x.local(node, place), ABSENT);
                due("a DEAD entry is one", x.flush(node), node == without ? 0 : 1);
            }
        }
    }

    private static void eraseAgainstWrites() {
        QuorumCells x = new QuorumCells(1);
        x.write(20, 5, 10, 1);
        due("an older erase", x.erase(20, 9, 1), 3);
        due("doesn't count", x.read(20, 3), 5);
        x.erase(20, 10, 1);
        due("at the same stamp DEAD is the newer", x.read(20, 3), ABSENT);
        x.write(20, GREATEST, 10, 1);
        due("even against the greatest value", x.read(20, 3), ABSENT);
        x.write(20, 6, 11, 1);
        due("a newer write is back", x.read(20, 3), 6);
        x.erase(20, GREATEST, 1);
        x.write(20, 6, GREATEST, 1);
        due("DEAD at the greatest stamp", x.read(20, 3), ABSENT);
        x.write(21, -5, 3, 1);
        x.erase(21, 3, 1);
        due("DEAD against a value below 0", x.read(21, 1), ABSENT);
        x.erase(21, 2, 1);
        due("the newer erase stays", x.stamp(2, 21), 3);
    }

    private static void eraseWithNodesDown() {
        QuorumCells x = new QuorumCells(1);
        x.write(0, 5, 1, 3);
        x.down(0);
        due("level 3 with two up", x.erase(0, 2, 3), UNAVAILABLE);
        due("nothing was hinted", x.hints(), 0);
        due("nothing was erased", x.local(1, 0), 5);
        due("level 2 with two up", x.erase(0, 2, 2), 2);
        due("hinted", x.hints(), 1);
        due("the node that is down has the value", x.local(0, 0), 5);
        due("up with the hint", x.up(0), 2);
        due("it is erased there too", x.local(0, 0), ABSENT);
        due("with the stamp", x.stamp(0, 0), 2);
    }

    private static void eraseWithWrongNumbers() {
        QuorumCells x = new QuorumCells(1);
        x.down(0);
        for (int place : WRONG_PLACES) {
            due("place " + place, x.erase(place, 1, 1), REFUSED);
        }
        for (int level : WRONG_LEVELS) {
            due("level " + level, x.erase(0, 1, level), REFUSED);
        }
        due("nothing was erased", x.flush(1), 0);
        due("nothing was hinted", x.hints(), 0);
    }

    // 4

    private static void wipeHidesUpToItsStamp() {
        for (int partition = 0; partition < 8; partition++) {
            QuorumCells x = new QuorumCells(1);
            int first = partition * 8;
            x.write(first, 1, 4, 1);
            x.write(first + 1, 2, 5, 1);
            x.write(first + 7, 3, 6, 1);
            int other = (partition + 1) % 8 * 8;
            x.write(other, 4, 1, 1);
            due("all replicas are up", x.wipe(partition, 5, 1 + partition % 3), 3);
            int node = partition % 4;
            due("an older entry is hidden", x.read(first, 1), ABSENT);
            due("one with the same stamp too", x.read(first + 1, 1), ABSENT);
            due("a newer one isn't", x.read(first + 7, 1), 3);
            due("nor one of another partition", x.read(other, 1), 4);
            due("hidden ones are still held", x.stamp(node, first), 4);
            due("and count", x.flush(node), 3);
            for (int each = 0; each < 4; each++) {
                due("wipe on " + each, x.wiped(each, partition), each == (partition + 3) % 4 ? ABSENT : 5);
            }
        }
    }

    private static void wipeKeepsTheNewer() {
        QuorumCells x = new QuorumCells(1);
        x.wipe(2, 5, 1);
        due("an older wipe is answered alike", x.wipe(2, 4, 1), 3);
        due("the newer stays", x.wiped(2, 2), 5);
        x.wipe(2, 6, 1);
        due("a newer one is kept", x.wiped(2, 2), 6);
        x.write(16, 1, 6, 1);
        due("a write hidden at once is held", x.stamp(2, 16), 6);
        due("but has no value", x.read(16, 1), ABSENT);
        x.write(16, 1, 7, 1);
        due("a newer one has", x.read(16, 1), 1);
        x.wipe(3, LEAST, 1);
        due("the least stamp is one", x.wiped(3, 3), LEAST);
        x.write(24, 1, LEAST, 1);
        due("and hides its like", x.local(3, 24), ABSENT);
        x.wipe(3, GREATEST, 1);
        x.write(24, 1, GREATEST, 1);
        due("the greatest hides all", x.local(3, 24), ABSENT);
    }

    private static void wipeWithNodesDown() {
        QuorumCells x = new QuorumCells(1);
        x.down(1);
        due("level 3 with two up", x.wipe(1, 2, 3), UNAVAILABLE);
        due("nothing was hinted", x.hints(), 0);
        due("nothing was wiped", x.wiped(2, 1), ABSENT);
        due("level 2 with two up", x.wipe(1, 2, 2), 2);
        due("partition 2 is not on node 1", x.wipe(2, 2, 3), 3);
        due("hinted once", x.hints(), 1);
        due("not on the node that is down", x.wiped(1, 1), ABSENT);
        due("up with the hint", x.up(1), 2);
        due("it is wiped there too", x.wiped(1, 1), 2);
        due("only that partition", x.wiped(1, 0), ABSENT);
    }

    private static void wipeWithWrongNumbers() {
        QuorumCells x = new QuorumCells(1);
        x.down(0);
        for (int partition : WRONG_PARTITIONS) {
            due("partition " + partition, x.wipe(partition, 1, 1), REFUSED);
        }
        for (int level : WRONG_LEVELS) {
            due("level " + level, x.wipe(0, 1, level), REFUSED);
        }
        due("nothing was wiped", x.wiped(1, 0), ABSENT);
        due("nothing was hinted", x.hints(), 0);
    }

    // 5

    /** Partition 0 is on 0, 1, 2; here the later a replica in this order, the newer is what it holds. */
    private static QuorumCells newerOnLaterReplicas() {
        QuorumCells x = new QuorumCells(0);
        x.write(0, 10, 1, 3);
        x.down(0);
        x.write(0, 20, 2, 2);
        x.down(1);
        x.write(0, 30, 3, 1);
        x.up(0);
        x.up(1);
        return x;
    }

    private static void readAsksAsManyAsTheLevel() {
        QuorumCells x = newerOnLaterReplicas();
        due("level 1 asks the first", x.read(0, 1), 10);
        due("it stays as it was", x.stamp(0, 0), 1);
        due("level 2 asks two", x.read(0, 2), 20);
        due("the first is repaired", x.stamp(0, 0), 2);
        due("the second stays", x.stamp(1, 0), 2);
        due("the third stays", x.stamp(2, 0), 3);
        due("level 3 asks all", x.read(0, 3), 30);
        due("the first is repaired", x.local(0, 0), 30);
        due("the second is repaired", x.local(1, 0), 30);
        due("nothing there", x.read(1, 3), ABSENT);
        due("and nothing came of it", x.stamp(0, 1), ABSENT);
        due("no node besides the replicas is repaired", x.stamp(3, 0), ABSENT);
    }

    private static void readSkipsNodesThatAreDown() {
        QuorumCells x = newerOnLaterReplicas();
        x.down(0);
        due("level 1 asks the second", x.read(0, 1), 20);
        due("level 2 asks the second and third", x.read(0, 2), 30);
        due("the second is repaired", x.stamp(1, 0), 3);
        due("the one that is down isn't", x.stamp(0, 0), 1);
        due("level 3 can't be met", x.read(0, 3), NONE);

        QuorumCells y = newerOnLaterReplicas();
        y.down(1);
        due("level 2 asks the first and third", y.read(0, 2), 30);
        due("the first is repaired", y.stamp(0, 0), 3);
        due("the one that is down isn't", y.stamp(1, 0), 2);

        QuorumCells z = newerOnLaterReplicas();
        z.down(0);
        z.down(1);
        due("level 1 asks the third", z.read(0, 1), 30);
        due("the first stays", z.stamp(0, 0), 1);
        due("the second stays", z.stamp(1, 0), 2);
    }

    private static void readRepairsEntryAndWipe() {
        // Node 3 has the wipe alone, node 0 the entry alone: partition 3 is on 3, 0, 1.
        QuorumCells x = new QuorumCells(0);
        x.down(0);
        x.down(1);
        x.wipe(3, 5, 1);
        x.down(3);
        x.up(0);
        x.write(24, 9, 5, 1);
        x.write(25, 8, 6, 1);
        x.up(3);
        x.up(1);
        due("before: the entry", x.local(0, 24), 9);
        due("before: no wipe", x.wiped(0, 3), ABSENT);
        due("another place brings the wipe alone", x.read(31, 2), ABSENT);
        due("now it is here", x.wiped(0, 3), 5);
        due("and hides the entry", x.local(0, 24), ABSENT);
        due("the other entries weren't repaired", x.stamp(3, 24), ABSENT);
        due("hidden by the wipe of another node", x.read(24, 2), ABSENT);
        due("the hidden entry is taken in", x.stamp(3, 24), 5);
        due("newer than the wipe", x.read(25, 2), 8);
        due("taken in", x.local(3, 25), 8);
        due("the third wasn't asked", x.stamp(1, 24), ABSENT);
        due("nor for the wipe", x.wiped(1, 3), ABSENT);
        due("now it is", x.read(24, 3), ABSENT);
        due("the entry", x.stamp(1, 24), 5);
        due("and the wipe", x.wiped(1, 3), 5);

        QuorumCells y = new QuorumCells(0);
        y.wipe(0, 1, 3);
        y.down(0);
        y.down(1);
        y.wipe(0, 9, 1);
        y.up(0);
        y.up(1);
        y.read(5, 2);
        due("the first has its own wipe", y.wiped(0, 0), 1);
        y.read(5, 3);
        due("the newest wipe reaches the first", y.wiped(0, 0), 9);
        due("and the second", y.wiped(1, 0), 9);
    }

    private static void readPrefersDeadAndGreaterValues() {
        QuorumCells x = new QuorumCells(0);
        x.down(1);
        x.down(2);
        x.write(0, GREATEST, 5, 1);
        x.write(1, 3, 5, 1);
        x.write(2, 8, 5, 1);
        x.up(1);
        x.down(0);
        x.erase(0, 5, 1);
        x.write(1, 4, 5, 1);
        x.write(2, 7, 5, 1);
        x.up(0);
        x.up(2);
        due("the first alone", x.read(0, 1), GREATEST);
        due("DEAD is newer", x.read(0, 2), ABSENT);
        due("it reached the first", x.local(0, 0), ABSENT);
        due("the greater value of the second", x.read(1, 2), 4);
        due("it reached the first", x.local(0, 1), 4);
        due("the greater value of the first", x.read(2, 3), 8);
        due("it reached the second", x.local(1, 2), 8);
        due("and the third", x.local(2, 2), 8);
    }

    private static void readUnavailableChangesNothing() {
        QuorumCells x = newerOnLaterReplicas();
        x.down(2);
        due("level 3 with two up", x.read(0, 3), NONE);
        due("the first stays", x.stamp(0, 0), 1);
        due("the second stays", x.stamp(1, 0), 2);
        x.down(1);
        due("level 2 with one up", x.read(0, 2), NONE);
        due("level 1 with one up", x.read(0, 1), 10);
        x.down(0);
        due("level 1 with none up", x.read(0, 1), NONE);
    }

    private static void readWithWrongNumbers() {
        QuorumCells x = newerOnLaterReplicas();
        for (int place : WRONG_PLACES) {
            due("place " + place, x.read(place, 1), NONE);
        }
        for (int level : WRONG_LEVELS) {
            due("level " + level, x.read(0, level), NONE);
        }
        due("nothing was repaired", x.stamp(0, 0), 1);
    }

    // 6

    private static void sumAddsLiveValuesAsLong() {
        QuorumCells x = new QuorumCells(1);
        due("of none", x.sum(5, 1), 0);
        for (int cell = 0; cell < 8; cell++) {
            x.write(40 + cell, GREATEST, 5, 1);
        }
        x.write(39, 1, 5, 1);
        x.write(48, 1, 5, 1);
        due("beyond an int", x.sum(5, 1), 8L * GREATEST);
        for (int cell = 0; cell < 8; cell++) {
            x.write(40 + cell, LEAST, 6, 1);
        }
        due("below an int", x.sum(5, 2), 8L * LEAST);
        for (int cell = 0; cell < 8; cell++) {
            x.write(40 + cell, 1 << cell, 7 + cell, 1);
        }
        due("each place once", x.sum(5, 3), 255);
        x.erase(40, 7, 1);
        x.erase(47, 14, 1);
        due("without DEAD ones", x.sum(5, 3), 126);
        x.wipe(5, 9, 1);
        due("without hidden ones", x.sum(5, 3), 120);
        x.write(41, -121, 10, 1);
        due("below 0", x.sum(5, 3), -1);
    }

    private static void sumRepairsAllPlacesAskedOnly() {
        // Partition 6 is on 2, 3, 0.
        QuorumCells x = new QuorumCells(0);
        x.down(2);
        x.down(0);
        for (int cell = 0; cell < 8; cell++) {
            x.write(48 + cell, 1, 2, 1);
        }
        x.wipe(6, 1, 1);
        x.up(2);
        x.up(0);
        due("the first alone", x.sum(6, 1), 0);
        due("the first is as it was", x.stamp(2, 48), ABSENT);
        due("two", x.sum(6, 2), 8);
        for (int cell = 0; cell < 8; cell++) {
            due("the first is repaired", x.local(2, 48 + cell), 1);
            due("the third isn't", x.local(0, 48 + cell), ABSENT);
        }
        due("the wipe too", x.wiped(2, 6), 1);
        due("not on the third", x.wiped(0, 6), ABSENT);
        due("three", x.sum(6, 3), 8);
        due("the third is repaired", x.stamp(0, 55), 2);
        due("the wipe too", x.wiped(0, 6), 1);

        QuorumCells y = new QuorumCells(0);
        y.down(0);
        y.wipe(0, 1, 1);
        y.up(0);
        due("without any entry", y.sum(0, 2), 0);
        due("the wipe is repaired", y.wiped(0, 0), 1);
    }

    private static void sumUnavailableAndWrongNumbers() {
        QuorumCells x = newerOnLaterReplicas();
        for (int partition : WRONG_PARTITIONS) {
            due("partition " + partition, x.sum(partition, 1), NONE);
        }
        for (int level : WRONG_LEVELS) {
            due("level " + level, x.sum(0, level), NONE);
        }
        x.down(2);
        due("level 3 with two up", x.sum(0, 3), NONE);
        due("nothing was repaired", x.stamp(0, 0), 1);
        due("another partition of its own", x.sum(3, 3), 0);
        x.down(1);
        due("level 2 with one up", x.sum(0, 2), NONE);
        due("level 1 with one up", x.sum(0, 1), 10);
        x.down(0);
        due("level 1 with none up", x.sum(0, 1), NONE);
    }

    // 7

    private static void downKeepsWhatIsHeld() {
        QuorumCells x = new QuorumCells(1);
        x.write(0, 5, 1, 1);
        x.wipe(1, 2, 1);
        for (int node = 0; node < 4; node++) {
            due("goes down", x.down(node), 1);
            due("is down already", x.down(node), 0);
            due("is down", x.isUp(node), 0);
        }
        due("keeps the entry", x.local(0, 0), 5);
        due("keeps the wipe", x.wiped(1, 1), 2);
        x.up(0);
        due("has them when it is up again", x.read(0, 1), 5);
        x.crash(1);
        due("is down already after a crash", x.down(1), 0);
        for (int node : WRONG_NODES) {
            due("node " + node, x.down(node), REFUSED);
        }
        due("none went down", x.isUp(0), 1);
    }

    // 8

    private static void upTakesHintsIn() {
        QuorumCells x = new QuorumCells(1);
        due("is up already", x.up(2), 0);
        x.write(16, 1, 5, 1);
        x.down(2);
        due("without hints", x.up(2), 1);
        x.down(2);
        x.write(16, 2, 4, 1);
        x.write(17, 3, 6, 1);
        x.write(17, 2, 5, 1);
        x.erase(18, 7, 1);
        x.wipe(2, 3, 1);
        due("nothing yet", x.stamp(2, 17), ABSENT);
        due("five hints", x.up(2), 6);
        due("is up", x.isUp(2), 1);
        due("is up already", x.up(2), 0);
        due("the hints went", x.hints(), 0);
        due("an older hint doesn't count", x.local(2, 16), 1);
        due("the newer of two", x.local(2, 17), 3);
        due("an erase", x.stamp(2, 18), 7);
        due("it is DEAD", x.local(2, 18), ABSENT);
        due("a wipe", x.wiped(2, 2), 3);
        x.crash(2);
        due("the hints don't come again", x.up(2), 1);
        due("nor what they held", x.stamp(2, 17), ABSENT);
        for (int node : WRONG_NODES) {
            due("node " + node, x.up(node), REFUSED);
        }
    }

    private static void upLeavesHintsOfOthers() {
        QuorumCells x = new QuorumCells(1);
        x.down(0);
        x.down(1);
        x.write(0, 1, 1, 1);
        x.write(1, 2, 2, 1);
        x.wipe(4, 3, 1);
        x.erase(33, 4, 1);
        due("eight hints", x.hints(), 8);
        due("four for 1", x.up(1), 5);
        due("four left", x.hints(), 4);
        due("0 is down", x.stamp(0, 0), ABSENT);
        due("1 has the first", x.local(1, 0), 1);
        due("1 has the second", x.local(1, 1), 2);
        x.write(2, 9, 9, 1);
        due("four and one for 0", x.up(0), 6);
        due("0 has the first", x.local(0, 0), 1);
        due("0 has the second", x.local(0, 1), 2);
        due("0 has the wipe", x.wiped(0, 4), 3);
        due("0 has the erase", x.stamp(0, 33), 4);
        due("it is DEAD", x.local(0, 33), ABSENT);
        due("0 has the last", x.local(0, 2), 9);
        due("none left", x.hints(), 0);
    }

    // 9

    private static void crashRestoresFlushedContent() {
        QuorumCells x = new QuorumCells(1);
        x.write(0, 1, 1, 1);
        x.write(1, 2, 2, 1);
        x.erase(2, 3, 1);
        x.wipe(4, 4, 1);
        x.flush(0);
        x.write(0, 9, 9, 1);
        x.erase(1, 9, 1);
        x.write(2, 9, 9, 1);
        x.write(3, 9, 9, 1);
        x.wipe(4, 9, 1);
        x.wipe(0, 1, 1);
        due("three entries", x.crash(0), 3);
        due("it is down", x.isUp(0), 0);
        due("no wipe that wasn't flushed", x.wiped(0, 0), ABSENT);
        due("a wipe as flushed", x.wiped(0, 4), 4);
        due("a value as flushed", x.local(0, 0), 1);
        due("its stamp", x.stamp(0, 0), 1);
        due("one that was erased since", x.local(0, 1), 2);
        due("one that was DEAD", x.local(0, 2), ABSENT);
        due("its stamp", x.stamp(0, 2), 3);
        due("one that came since", x.stamp(0, 3), ABSENT);
        due("the other nodes keep theirs", x.local(1, 0), 9);
        due("a crash without a flush loses all", x.crash(1), 0);
        due("the wipe too", x.wiped(1, 0), ABSENT);
        due("0 still has its flushed content", x.crash(0), 3);
        for (int node : WRONG_NODES) {
            due("node " + node, x.crash(node), REFUSED);
        }
        due("none crashed", x.isUp(2), 1);
    }

    private static void crashOfADownNode() {
        QuorumCells x = new QuorumCells(1);
        x.write(0, 1, 1, 1);
        x.down(0);
        x.write(0, 2, 2, 1);
        due("loses what it held", x.crash(0), 0);
        due("holds nothing", x.stamp(0, 0), ABSENT);
        due("its hints stay", x.hints(), 1);
        x.write(1, 3, 3, 1);
        due("and come", x.up(0), 3);
        due("with the entry", x.local(0, 0), 2);
        due("and the later one", x.local(0, 1), 3);
    }

    // 10

    private static void flushKeepsEntriesAndWipes() {
        QuorumCells x = new QuorumCells(1);
        for (int place = 0; place < 64; place++) {
            x.write(place, place, 1, 1);
        }
        x.erase(63, 2, 1);
        x.wipe(7, 3, 1);
        for (int node = 0; node < 4; node++) {
            due("hidden and DEAD ones count", x.flush(node), 48);
        }
        x.write(63, 9, 9, 1);
        due("the flushed content came back", x.crash(3), 48);
        due("DEAD", x.stamp(3, 63), 2);
        due("the wipe", x.wiped(3, 7), 3);
        x.up(3);
        x.write(56, 8, 8, 1);
        due("once more", x.flush(3), 48);
        x.crash(3);
        due("the later flush counts", x.local(3, 56), 8);
        due("flush of one is not one of another", x.crash(0), 48);
        due("it has the older", x.stamp(0, 56), 1);
        for (int node : WRONG_NODES) {
            due("node " + node, x.flush(node), REFUSED);
        }
    }

    private static void flushOfADownNode() {
        QuorumCells x = new QuorumCells(1);
        x.write(0, 1, 1, 1);
        x.down(0);
        due("down", x.flush(0), UNAVAILABLE);
        due("nothing was flushed", x.crash(0), 0);
        due("down by a crash", x.flush(0), UNAVAILABLE);
    }

    // 11

    private static void compactDropsHiddenThenDeadThenWipes() {
        QuorumCells x = new QuorumCells(1);
        x.write(0, 1, 5, 1);
        x.write(1, 2, 6, 1);
        x.erase(2, 4, 1);
        x.erase(3, 7, 1);
        x.erase(4, 20, 1);
        x.wipe(0, 5, 1);
        x.write(32, 3, 1, 1);
        x.erase(33, 1, 1);
        x.wipe(4, 20, 1);
        x.write(34, 4, 21, 1);
        due("three entries are left", x.compact(0, 10), 3);
        due("hidden by a wipe that goes too", x.stamp(0, 0), ABSENT);
        due("live and old", x.local(0, 1), 2);
        due("hidden and DEAD", x.stamp(0, 2), ABSENT);
        due("DEAD and old", x.stamp(0, 3), ABSENT);
        due("DEAD and new", x.stamp(0, 4), 20);
        due("an old wipe", x.wiped(0, 0), ABSENT);
        due("hidden by a wipe that stays", x.stamp(0, 32), ABSENT);
        due("hidden and DEAD", x.stamp(0, 33), ABSENT);
        due("newer than the wipe", x.local(0, 34), 4);
        due("a new wipe", x.wiped(0, 4), 20);
        due("another node has all", x.flush(1), 8);
        due("and its wipe", x.wiped(1, 0), 5);
    }

    private static void compactBoundsAreStrict() {
        QuorumCells x = new QuorumCells(1);
        x.erase(8, 10, 1);
        x.erase(9, 9, 1);
        x.erase(63, 9, 1);
        x.wipe(2, 10, 1);
        x.wipe(5, 9, 1);
        due("one DEAD entry is left", x.compact(2, 10), 1);
        due("the stamp equal to before", x.stamp(2, 8), 10);
        due("the one below", x.stamp(2, 9), ABSENT);
        due("the wipe equal to before", x.wiped(2, 2), 10);
        due("the wipe below", x.wiped(2, 5), ABSENT);
        due("the rest", x.compact(2, 11), 0);
        due("the wipe too", x.wiped(2, 2), ABSENT);

        QuorumCells y = new QuorumCells(1);
        y.erase(0, LEAST, 1);
        y.erase(1, GREATEST, 1);
        y.wipe(4, LEAST, 1);
        due("nothing is less than the least", y.compact(0, LEAST), 2);
        due("nor the wipe", y.wiped(0, 4), LEAST);
        due("the greatest isn't less than itself", y.compact(0, GREATEST), 1);
        due("the wipe is", y.wiped(0, 4), ABSENT);
        due("this one stays", y.stamp(0, 1), GREATEST);
        y.write(2, 5, LEAST, 1);
        due("a live one always stays", y.compact(0, GREATEST), 2);
        due("with its value", y.local(0, 2), 5);
    }

    private static void compactOfEveryNode() {
        QuorumCells x = new QuorumCells(1);
        for (int place = 0; place < 64; place++) {
            x.write(place, place, 1 + place % 8, 1);
        }
        for (int partition = 0; partition < 8; partition++) {
            x.wipe(partition, 3, 1);
            x.erase(8 * partition + 7, 9, 1);
        }
        for (int node = 0; node < 4; node++) {
            due("of 8 in each of 6 partitions 3 hidden and 1 DEAD go", x.compact(node, 10), 6 * 4);
            for (int partition = 0; partition < 8; partition++) {
                due("the wipes go", x.wiped(node, partition), ABSENT);
            }
        }
        due("live ones are left", x.sum(7, 3), 59 + 60 + 61 + 62);
    }

    private static void compactFlushes() {
        QuorumCells x = new QuorumCells(1);
        x.write(0, 1, 1, 1);
        x.write(1, 2, 9, 1);
        x.wipe(0, 2, 1);
        x.flush(0);
        due("one is left", x.compact(0, 5), 1);
        due("one comes back", x.crash(0), 1);
        due("what was dropped doesn't", x.stamp(0, 0), ABSENT);
        due("nor the wipe", x.wiped(0, 0), ABSENT);
        due("the other does", x.local(0, 1), 2);
        x.up(0);
        x.read(0, 2);
        due("what went comes back by a read", x.stamp(0, 0), 1);
        due("with the wipe", x.wiped(0, 0), 2);
        x.compact(0, 2);
        x.crash(0);
        due("a wipe that stays is flushed", x.wiped(0, 0), 2);
    }

    private static void compactOfADownNodeAndWrongNumbers() {
        QuorumCells x = new QuorumCells(1);
        x.erase(0, 1, 1);
        x.wipe(0, 1, 1);
        x.down(0);
        due("down", x.compact(0, 5), UNAVAILABLE);
        due("nothing was dropped", x.stamp(0, 0), 1);
        due("nor the wipe", x.wiped(0, 0), 1);
        due("nothing was flushed", x.crash(0), 0);
        for (int node : WRONG_NODES) {
            due("node " + node, x.compact(node, 5), REFUSED);
        }
        due("nothing was dropped elsewhere", x.stamp(1, 0), 1);
    }

    // 12

    private static void repairExchangesBothWays() {
        QuorumCells x = new QuorumCells(0);
        x.write(7, 1, 1, 1);
        x.down(1);
        x.write(0, 1, 5, 1);
        x.erase(1, 5, 1);
        x.write(2, 9, 5, 1);
        x.wipe(0, 3, 1);
        x.up(1);
        x.down(0);
        x.write(0, 2, 5, 1);
        x.write(1, 7, 5, 1);
        x.write(3, 4, 2, 1);
        x.wipe(3, 8, 1);
        x.write(24, 6, 1, 1);
        x.up(0);
        // To 0: places 0, 3, 24 and wipe 3; to 1: places 1, 2 and wipe 0.
        due("changes on both", x.repair(0, 1), 7);
        due("the greater value", x.local(0, 0), 2);
        due("DEAD against a value", x.local(1, 1), ABSENT);
        due("its stamp", x.stamp(1, 1), 5);
        due("to 1", x.local(1, 2), 9);
        due("the wipe of 0", x.wiped(1, 0), 3);
        due("a hidden entry is taken in too", x.stamp(0, 3), 2);
        due("the wipe of 1", x.wiped(0, 3), 8);
        due("with an entry that it hides", x.stamp(0, 24), 1);
        due("nothing more", x.repair(0, 1), 0);
        due("nor the other way", x.repair(1, 0), 0);
        due("a third node isn't touched", x.wiped(3, 3), 8);
    }

    private static void repairSparesPartitionsNotShared() {
        // Nodes 0 and 2 share 0 and 4 (0, 1, 2), 2 and 6 (2, 3, 0), and not 1 (1, 2, 3) and 3 (3, 0, 1).
        QuorumCells x = new QuorumCells(0);
        x.write(8, 1, 1, 1);
        x.write(24, 2, 2, 1);
        x.wipe(1, 1, 1);
        x.wipe(3, 2, 1);
        due("nothing to take", x.repair(0, 2), 0);
        due("0 got none of 1", x.stamp(0, 8), ABSENT);
        due("2 got none of 3", x.stamp(2, 24), ABSENT);
        due("nor a wipe", x.wiped(0, 1), ABSENT);
        due("nor a wipe", x.wiped(2, 3), ABSENT);
    }

    private static void repairOfAllPairsCountsSharedPlaces() {
        for (int a = 0; a < 4; a++) {
            for (int b = 0; b < 4; b++) {
                if (a == b) {
                    continue;
                }
                QuorumCells x = new QuorumCells(0);
                x.down(b);
                for (int place = 0; place < 64; place++) {
                    x.write(place, place, 1, 1);
                }
                for (int partition = 0; partition < 8; partition++) {
                    x.wipe(partition, 0, 1);
                }
                x.up(b);
                // Any two nodes are both replicas of 4 of the 8 partitions.
                due("from " + a + " to " + b, x.repair(a, b), 4 * 9);
                due("places on " + b, x.flush(b), 32);
                due("places on " + a, x.flush(a), 48);
            }
        }
    }

    private static void repairUnavailableAndRefused() {
        QuorumCells x = new QuorumCells(0);
        x.down(1);
        x.write(0, 1, 1, 1);
        due("b is down", x.repair(0, 1), UNAVAILABLE);
        due("a is down", x.repair(1, 0), UNAVAILABLE);
        due("nothing was taken", x.stamp(1, 0), ABSENT);
        due("the same", x.repair(0, 0), REFUSED);
        due("the same, down", x.repair(1, 1), REFUSED);
        for (int node : WRONG_NODES) {
            due("a is " + node, x.repair(node, 0), REFUSED);
            due("b is " + node, x.repair(0, node), REFUSED);
            due("both are " + node, x.repair(node, node), REFUSED);
            due("tested before what is down", x.repair(1, node), REFUSED);
        }
        x.up(1);
        due("both are up", x.repair(1, 0), 1);
    }

    // 13

    private static void isUpTellsTheState() {
        QuorumCells x = new QuorumCells(1);
        for (int node = 0; node < 4; node++) {
            due("at first", x.isUp(node), 1);
            x.down(node);
            due("down", x.isUp(node), 0);
            x.up(node);
            due("up", x.isUp(node), 1);
            x.crash(node);
            due("crashed", x.isUp(node), 0);
            due("the next one", x.isUp((node + 1) % 4), node == 3 ? 0 : 1);
        }
        for (int node : WRONG_NODES) {
            due("node " + node, x.isUp(node), REFUSED);
        }
    }

    // 14

    private static void localTellsLiveValues() {
        QuorumCells x = new QuorumCells(1);
        x.write(63, -7, 5, 1);
        due("a value", x.local(3, 63), -7);
        due("a node that is no replica", x.local(2, 63), ABSENT);
        due("no entry", x.local(3, 62), ABSENT);
        x.down(3);
        x.wipe(7, 5, 1);
        due("down, without the wipe", x.local(3, 63), -7);
        due("up, with the wipe", x.local(0, 63), ABSENT);
        x.up(3);
        due("now hidden", x.local(3, 63), ABSENT);
        x.write(63, 0, 6, 1);
        due("a value 0 is one", x.local(3, 63), 0);
        x.erase(63, 6, 1);
        due("DEAD", x.local(3, 63), ABSENT);
        x.write(62, LEAST, 6, 1);
        due("the least value", x.local(3, 62), LEAST);
        for (int node : WRONG_NODES) {
            due("node " + node, x.local(node, 0), NONE);
        }
        for (int place : WRONG_PLACES) {
            due("place " + place, x.local(0, place), NONE);
        }
    }

    // 15

    private static void stampTellsAnyEntry() {
        QuorumCells x = new QuorumCells(1);
        x.write(0, 1, 5, 1);
        x.erase(1, -5, 1);
        x.write(2, 1, 0, 1);
        x.wipe(0, 5, 1);
        due("hidden", x.stamp(0, 0), 5);
        due("DEAD and hidden", x.stamp(1, 1), -5);
        due("a stamp 0 is one", x.stamp(2, 2), 0);
        due("none, beside a wipe", x.stamp(0, 3), ABSENT);
        due("a node that is no replica", x.stamp(3, 0), ABSENT);
        x.down(0);
        due("down", x.stamp(0, 0), 5);
        for (int node : WRONG_NODES) {
            due("node " + node, x.stamp(node, 0), NONE);
        }
        for (int place : WRONG_PLACES) {
            due("place " + place, x.stamp(0, place), NONE);
        }
    }

    // 16

    private static void wipedTellsTheWipe() {
        QuorumCells x = new QuorumCells(1);
        x.wipe(0, 0, 1);
        x.wipe(7, -3, 1);
        due("a stamp 0 is one", x.wiped(0, 0), 0);
        due("a stamp below 0", x.wiped(1, 7), -3);
        due("a node that is no replica", x.wiped(2, 7), ABSENT);
        due("another partition", x.wiped(0, 4), ABSENT);
        x.write(32, 1, 1, 1);
        due("an entry is no wipe", x.wiped(0, 4), ABSENT);
        x.down(0);
        due("down", x.wiped(0, 0), 0);
        for (int node : WRONG_NODES) {
            due("node " + node, x.wiped(node, 0), NONE);
        }
        for (int partition : WRONG_PARTITIONS) {
            due("partition " + partition, x.wiped(0, partition), NONE);
        }
    }

    // 17

    private static void hintsAreTwelveAtMost() {
        QuorumCells x = new QuorumCells(1);
        x.down(0);
        for (int i = 0; i < 20; i++) {
            // The same entry again is a hint of its own.
            x.write(0, 1, 1, 1);
            due("after " + (i + 1), x.hints(), i < 12 ? i + 1 : 12);
        }
        x.read(0, 1);
        x.crash(0);
        x.crash(1);
        x.flush(2);
        due("no other call takes one away", x.hints(), 12);
        due("twelve and one", x.up(0), 13);
        due("none", x.hints(), 0);
        due("none for the other", x.up(1), 1);
    }

    private static void hintsThatWereDroppedAreTheOldest() {
        QuorumCells x = new QuorumCells(1);
        x.down(0);
        for (int cell = 0; cell < 8; cell++) {
            x.write(cell, cell + 1, 100 - cell, 1);
        }
        x.wipe(4, 1, 1);
        for (int cell = 0; cell < 6; cell++) {
            x.erase(32 + cell, 2, 1);
        }
        due("twelve of fifteen", x.hints(), 12);
        due("twelve and one", x.up(0), 13);
        for (int cell = 0; cell < 8; cell++) {
            due("the first three went", x.stamp(0, cell), cell < 3 ? ABSENT : 100 - cell);
            due("the others have their value", x.local(0, cell), cell < 3 ? ABSENT : cell + 1);
        }
        due("the wipe is here", x.wiped(0, 4), 1);
        for (int cell = 0; cell < 6; cell++) {
            due("the last ones are here", x.stamp(0, 32 + cell), 2);
            due("they are DEAD", x.local(0, 32 + cell), ABSENT);
        }
        x.down(0);
        x.write(0, 5, 5, 1);
        due("from the beginning again", x.hints(), 1);
        due("with its own", x.up(0), 2);
        due("taken in", x.local(0, 0), 5);
    }
}
