import java.util.function.ToLongFunction;

/**
 * One test of its own for each sentence that names a boundary case and stands before the promises: under "What it is"
 * and "Terms". Each begins with the sentence.
 */
public final class TermsBoundariesTest extends Checks {
    public static void main(String[] args) {
        theLastCallIsAnswered();
        placesAreCellsOfPartitions();
        replicasWrapAround();
        replicasAreInOrder();
        entriesHoldAnyInt();
        wipesHoldAnyInt();
        greaterStampIsNewer();
        deadIsNewerAtEqualStamps();
        greaterValueIsNewerAtEqualStamps();
        twoAlikeAreTheSame();
        greaterStampIsTheNewerWipe();
        takingInKeepsTheNewerThere();
        hiddenEntriesAreHeld();
        wipeHidesStampsNotGreater();
        wipeHidesOnItsNodeAlone();
        wipeHidesInTheSameAnswer();
        liveIsNeitherDeadNorHidden();
        allNodesAreUpAtFirst();
        flushedContentIsEmptyAtFirst();
        hintsAreAtMostTwelve();
        hintsHaveEntriesAndWipes();
        theOldestHintGoesFirst();
        theOldestHintGoesWhomeverItIsFor();
        theOldestHintIsTheOldestOfThoseLeft();
        aFullListStaysWithoutAdding();
        hintsAreNoneAtFirst();
        levelsAreOneToThree();
        tooFewReplicasUp();
        numbersAreTestedFirst();
        end();
    }

    // What it is

    private static void theLastCallIsAnswered() {
        about("\"An object is used for at most 512 calls after it has been made\"");
        QuorumCells x = new QuorumCells(1);
        x.down(0);
        for (int call = 2; call <= 510; call++) {
            due("call " + call, x.write(call % 8, call, call, 1), 2);
        }
        due("call 511", x.up(0), 13);
        due("call 512", x.sum(0, 3), 503 + 504 + 505 + 506 + 507 + 508 + 509 + 510);
    }

    // Terms: cells and replicas

    private static void placesAreCellsOfPartitions() {
        about("\"the PLACE 8p + c (0 .. 63) is cell c of partition p\"");
        for (int partition = 0; partition < 8; partition++) {
            QuorumCells x = new QuorumCells(1);
            for (int place = 0; place < 64; place++) {
                due("write at " + place, x.write(place, place + 1, 1, 1), 3);
            }
            x.wipe(partition, 1, 1);
            for (int place = 0; place < 64; place++) {
                boolean isWiped = place >= 8 * partition && place <= 8 * partition + 7;
                due("after a wipe of " + partition + ": " + place, x.read(place, 1), isWiped ? ABSENT : place + 1);
            }
            for (int other = 0; other < 8; other++) {
                due("after a wipe of " + partition + ": sum of " + other, x.sum(other, 1),
                    other == partition ? 0 : 8 * (8 * other + 1) + 28);
            }
        }
    }

    private static void replicasWrapAround() {
        about("\"The REPLICAS of partition p are the nodes p mod 4, (p + 1) mod 4, (p + 2) mod 4\"");
        for (int partition = 0; partition < 8; partition++) {
            QuorumCells x = new QuorumCells(1);
            x.write(8 * partition, 1, 1, 1);
            x.erase(8 * partition + 7, 2, 1);
            x.wipe(partition, 3, 1);
            for (int node = 0; node < 4; node++) {
                String where = "partition " + partition + " on node " + node;
                boolean isReplica = isReplica(node, partition);
                due(where + ": first cell", x.stamp(node, 8 * partition), isReplica ? 1 : ABSENT);
                due(where + ": last cell", x.stamp(node, 8 * partition + 7), isReplica ? 2 : ABSENT);
                due(where + ": wipe", x.wiped(node, partition), isReplica ? 3 : ABSENT);
            }
        }
    }

    private static void replicasAreInOrder() {
        about("\"the nodes p mod 4, (p + 1) mod 4, (p + 2) mod 4, in this order\"");
        for (int partition = 0; partition < 8; partition++) {
            QuorumCells x = new QuorumCells(0);
            for (int node = 0; node < 4; node++) {
                x.down(node);
            }
            for (int node : REPLICAS[partition]) {
                x.up(node);
                x.write(8 * partition, 10 + node, 1, 1);
                x.down(node);
            }
            for (int rank = 2; rank >= 0; rank--) {
                int node = REPLICAS[partition][rank];
                x.up(node);
                due("partition " + partition + ", first of those up", x.read(8 * partition, 1), 10 + node);
            }
        }
    }

    // Terms: entries and wipes

    /** An entry of place 0, DEAD if its value is null; or a wipe of partition 0. These are on the nodes 0, 1, 2. */
    private record Item(boolean isWipe, int stamp, Integer value) {
        static Item entry(int stamp, int value) {
            return new Item(false, stamp, value);
        }

        static Item dead(int stamp) {
            return new Item(false, stamp, null);
        }

        static Item wipe(int stamp) {
            return new Item(true, stamp, null);
        }

        void send(QuorumCells x) {
            if (isWipe) {
                x.wipe(0, stamp, 1);
            } else if (value == null) {
                x.erase(0, stamp, 1);
            } else {
                x.write(0, value, stamp, 1);
            }
        }

        void isHeld(String what, QuorumCells x, int node) {
            if (isWipe) {
                due(what + ": wipe of node " + node, x.wiped(node, 0), stamp);
                due(what + ": entry of node " + node, x.stamp(node, 0), ABSENT);
            } else {
                due(what + ": stamp of node " + node, x.stamp(node, 0), stamp);
                due(what + ": value of node " + node, x.local(node, 0), value == null ? ABSENT : value);
                due(what + ": wipe of node " + node, x.wiped(node, 0), ABSENT);
            }
        }
    }

    /** Node 0 holds the one (nothing for null), node 1 the other, node 2 neither; no hint is left. */
    private static QuorumCells apart(Item first, Item second) {
        QuorumCells x = new QuorumCells(0);
        x.down(1);
        x.down(2);
        if (first != null) {
            first.send(x);
        }
        x.up(1);
        x.down(0);
        second.send(x);
        x.up(0);
        x.up(2);
        return x;
    }

    /** A node that holds the one (nothing for null) takes the other in, in each way there is, and keeps the third. */
    private static void meets(Item held, Item taken, Item kept) {
        String what = held + " meets " + taken;
        meetsByCallAndHint(what, held, taken, kept);
        meetsBetweenNodes(what + " by read", apart(held, taken), x -> x.read(0, 2), kept);
        meetsBetweenNodes(what + " by sum", apart(held, taken), x -> x.sum(0, 2), kept);
        meetsBetweenNodes(what + " by repair", apart(held, taken), x -> x.repair(0, 1), kept);
        meetsBetweenNodes(what + " by repair the other way", apart(held, taken), x -> x.repair(1, 0), kept);
    }

    private static void meetsBetweenNodes(String what, QuorumCells x, ToLongFunction<QuorumCells> call, Item kept) {
        call.applyAsLong(x);
        kept.isHeld(what, x, 0);
        kept.isHeld(what, x, 1);
    }

    private static void meetsByCallAndHint(String what, Item held, Item taken, Item kept) {
        QuorumCells call = new QuorumCells(1);
        QuorumCells hint = new QuorumCells(1);
        QuorumCells hints = new QuorumCells(1);
        hints.down(0);
        if (held != null) {
            held.send(call);
            held.send(hint);
            held.send(hints);
        }
        taken.send(call);
        kept.isHeld(what + " by a call", call, 0);
        hint.down(0);
        taken.send(hint);
        hint.up(0);
        kept.isHeld(what + " by a hint", hint, 0);
        taken.send(hints);
        hints.up(0);
        kept.isHeld(what + " by two hints", hints, 0);
    }

    private static void meetsBothWays(Item older, Item newer) {
        meets(older, newer, newer);
        meets(newer, older, newer);
    }

    private static void entriesHoldAnyInt() {
        about("\"an ENTRY: a stamp (an int), and either a value (an int) or DEAD\"");
        for (int stamp : NUMBERS) {
            for (int value : NUMBERS) {
                isKept(Item.entry(stamp, value));
            }
            isKept(Item.dead(stamp));
        }
    }

    private static void wipesHoldAnyInt() {
        about("\"for each partition nothing or a WIPE: a stamp\"");
        for (int stamp : NUMBERS) {
            isKept(Item.wipe(stamp));
        }
    }

    private static void isKept(Item item) {
        meets(null, item, item);
        QuorumCells x = new QuorumCells(1);
        item.send(x);
        x.flush(0);
        x.crash(0);
        item.isHeld(item + " after a crash", x, 0);
    }

    private static void greaterStampIsNewer() {
        about("\"Of two entries the NEWER is the one with the greater stamp\"");
        for (int i = 0; i < NUMBERS.length; i++) {
            for (int j = i + 1; j < NUMBERS.length; j++) {
                int less = NUMBERS[i];
                int greater = NUMBERS[j];
                meetsBothWays(Item.entry(less, GREATEST), Item.entry(greater, LEAST));
                meetsBothWays(Item.entry(less, 5), Item.entry(greater, 5));
                meetsBothWays(Item.dead(less), Item.entry(greater, LEAST));
                meetsBothWays(Item.entry(less, GREATEST), Item.dead(greater));
                meetsBothWays(Item.dead(less), Item.dead(greater));
            }
        }
    }

    private static void deadIsNewerAtEqualStamps() {
        about("\"with equal stamps a DEAD one\"");
        for (int stamp : NUMBERS) {
            for (int value : NUMBERS) {
                meetsBothWays(Item.entry(stamp, value), Item.dead(stamp));
            }
        }
    }

    private static void greaterValueIsNewerAtEqualStamps() {
        about("\"of two with equal stamps and values the one with the greater value\"");
        for (int stamp : NUMBERS) {
            for (int i = 0; i < NUMBERS.length; i++) {
                for (int j = i + 1; j < NUMBERS.length; j++) {
                    meetsBothWays(Item.entry(stamp, NUMBERS[i]), Item.entry(stamp, NUMBERS[j]));
                }
            }
        }
    }

    private static void twoAlikeAreTheSame() {
        about("\"two alike are the same\"");
        for (int stamp : NUMBERS) {
            Item[] items = {Item.entry(stamp, LEAST), Item.entry(stamp, 0), Item.entry(stamp, GREATEST),
                Item.dead(stamp), Item.wipe(stamp)};
            for (Item item : items) {
                meets(item, item, item);
                due(item + " twice: changes of a repair", apart(item, item).repair(0, 1), 0);
                due(item + " once: changes of a repair", apart(null, item).repair(0, 1), 1);
            }
        }
    }

    private static void greaterStampIsTheNewerWipe() {
        about("\"Of two wipes the newer is the one with the greater stamp.\"");
        for (int i = 0; i < NUMBERS.length; i++) {
            for (int j = i + 1; j < NUMBERS.length; j++) {
                meetsBothWays(Item.wipe(NUMBERS[i]), Item.wipe(NUMBERS[j]));
            }
        }
    }

    private static void takingInKeepsTheNewerThere() {
        about("\"TAKING an entry or a wipe in, a node keeps the newer one of it and what it holds there.\"");
        // What is held elsewhere is neither newer nor older: place 63 beside 0, partition 7 beside 0.
        QuorumCells x = new QuorumCells(1);
        x.write(0, 1, 9, 1);
        x.wipe(0, 3, 1);
        x.write(63, 2, 1, 1);
        x.wipe(7, LEAST, 1);
        due("an older one than at another place", x.local(0, 63), 2);
        due("an older wipe than of another partition", x.wiped(0, 7), LEAST);
        due("the one at another place", x.local(0, 0), 1);
        due("the wipe of another partition", x.wiped(0, 0), 3);
        // Nor are an entry and a wipe one newer than the other.
        x.wipe(0, GREATEST, 1);
        due("an entry beside a newer wipe", x.stamp(0, 0), 9);
        x.write(56, 2, GREATEST, 1);
        due("a wipe beside a newer entry", x.wiped(0, 7), LEAST);
    }

    // Terms: hidden and live

    private static void hiddenEntriesAreHeld() {
        about("\"A node holds an entry under its place also if a wipe HIDES it\"");
        QuorumCells x = new QuorumCells(1);
        x.write(8, 5, 4, 1);
        x.flush(1);
        x.wipe(1, 7, 1);
        due("hidden by a later wipe", x.stamp(1, 8), 4);
        x.write(8, 6, 3, 1);
        due("an older one isn't taken in", x.stamp(1, 8), 4);
        x.write(8, 6, 6, 1);
        due("a newer one is, hidden at once", x.stamp(1, 8), 6);
        x.erase(9, LEAST, 1);
        due("a DEAD one is", x.stamp(1, 9), LEAST);
        due("none has a value", x.read(8, 3), ABSENT);
        due("but they count", x.flush(2), 2);
        due("without the wipe there is the one of before", x.crash(1), 1);
        due("with its value", x.local(1, 8), 5);
    }

    private static void wipeHidesStampsNotGreater() {
        about("\"hidden by a wipe of its partition [..] with a stamp not less than its own\"");
        for (int stamp : NUMBERS) {
            for (int wipe : NUMBERS) {
                String what = "stamp " + stamp + ", wipe " + wipe;
                QuorumCells x = new QuorumCells(1);
                x.write(15, 5, stamp, 1);
                x.wipe(0, GREATEST, 1);
                x.wipe(2, GREATEST, 1);
                due(what + ": wipes of other partitions", x.local(1, 15), 5);
                x.wipe(1, wipe, 1);
                boolean isHidden = wipe >= stamp;
                due(what + ": local", x.local(1, 15), isHidden ? ABSENT : 5);
                due(what + ": read", x.read(15, 3), isHidden ? ABSENT : 5);
                due(what + ": sum", x.sum(1, 3), isHidden ? 0 : 5);
                due(what + ": compact", x.compact(1, LEAST), isHidden ? 0 : 1);
            }
        }
    }

    /** Of partition 0 node 0 has a value with the stamp 5, node 1 nothing, node 2 a wipe with the stamp 5. */
    private static QuorumCells wipeElsewhere() {
        QuorumCells x = new QuorumCells(0);
        x.down(1);
        x.down(2);
        x.write(0, 9, 5, 1);
        x.down(0);
        x.up(2);
        x.wipe(0, 5, 1);
        x.up(0);
        x.up(1);
        return x;
    }

    private static void wipeHidesOnItsNodeAlone() {
        about("\"an entry is hidden by a wipe of its partition on the same node\"");
        QuorumCells x = wipeElsewhere();
        due("a wipe on another node", x.local(0, 0), 9);
        due("a wipe on a node not asked", x.read(0, 2), 9);
        due("nor summed", x.sum(0, 2), 9);
        due("not hidden, so it doesn't go", x.compact(0, LEAST), 1);
        x.repair(0, 2);
        due("a wipe on the same node", x.local(0, 0), ABSENT);
        due("and on the other", x.local(2, 0), ABSENT);
        due("hidden, so it goes", x.compact(0, LEAST), 0);
    }

    private static void wipeHidesInTheSameAnswer() {
        about("\"(or in the same answer)\"");
        due("read: the entry of one, the wipe of another", wipeElsewhere().read(0, 3), ABSENT);
        due("sum: the entry of one, the wipe of another", wipeElsewhere().sum(0, 3), 0);
        QuorumCells x = wipeElsewhere();
        x.down(1);
        due("the two that are up", x.read(0, 2), ABSENT);
        QuorumCells y = wipeElsewhere();
        y.write(0, 8, 6, 1);
        due("an entry newer than the wipe", y.read(0, 3), 8);
    }

    private static void liveIsNeitherDeadNorHidden() {
        about("\"An entry is LIVE if it isn't DEAD and not hidden.\"");
        QuorumCells x = new QuorumCells(1);
        x.wipe(0, 5, 1);
        x.write(0, 1, 6, 1);
        x.erase(1, 6, 1);
        x.write(2, 1, 5, 1);
        x.erase(3, 5, 1);
        due("neither", x.local(0, 0), 1);
        due("DEAD alone", x.local(0, 1), ABSENT);
        due("hidden alone", x.local(0, 2), ABSENT);
        due("both", x.local(0, 3), ABSENT);
        due("neither, read", x.read(0, 1), 1);
        due("DEAD alone, read", x.read(1, 1), ABSENT);
        due("hidden alone, read", x.read(2, 1), ABSENT);
        due("both, read", x.read(3, 1), ABSENT);
        due("all in a sum", x.sum(0, 1), 1);
    }

    // Terms: nodes

    private static void allNodesAreUpAtFirst() {
        about("\"Each node is up or down, all up at first\"");
        QuorumCells x = new QuorumCells(0);
        for (int node = 0; node < 4; node++) {
            due("node " + node, x.isUp(node), 1);
            due("up of " + node, x.up(node), 0);
        }
        for (int partition = 0; partition < 8; partition++) {
            due("replicas up of " + partition, x.wipe(partition, 1, 3), 3);
        }
    }

    private static void flushedContentIsEmptyAtFirst() {
        about("\"has a FLUSHED content (entries and wipes), empty at first\"");
        for (int node = 0; node < 4; node++) {
            QuorumCells x = new QuorumCells(1);
            for (int place = 0; place < 64; place++) {
                x.write(place, 1, 1, 1);
            }
            for (int partition = 0; partition < 8; partition++) {
                x.wipe(partition, 0, 1);
            }
            due("entries of node " + node, x.crash(node), 0);
            for (int place = 0; place < 64; place++) {
                due("entry of node " + node + " at " + place, x.stamp(node, place), ABSENT);
            }
            for (int partition = 0; partition < 8; partition++) {
                due("wipe of node " + node + " of " + partition, x.wiped(node, partition), ABSENT);
            }
        }
    }

    // Terms: hints

    /** Node 0 is down and has a hint for each cell of the partitions 0 and 4 in turn, values and DEAD ones by turns. */
    private static QuorumCells hinted(int count) {
        QuorumCells x = new QuorumCells(1);
        x.down(0);
        for (int i = 0; i < count; i++) {
            sendHint(x, i);
        }
        return x;
    }

    private static void sendHint(QuorumCells x, int i) {
        if (i % 2 == 0) {
            x.write(hintedPlace(i), 50 + i, i + 1, 1);
        } else {
            x.erase(hintedPlace(i), i + 1, 1);
        }
    }

    private static int hintedPlace(int i) {
        return i < 8 ? i : 24 + i;
    }

    private static void hintCame(String what, QuorumCells x, int i) {
        due(what + ": stamp of hint " + i, x.stamp(0, hintedPlace(i)), i + 1);
        due(what + ": value of hint " + i, x.local(0, hintedPlace(i)), i % 2 == 0 ? 50 + i : ABSENT);
    }

    private static void hintIsGone(String what, QuorumCells x, int i) {
        due(what + ": stamp of hint " + i, x.stamp(0, hintedPlace(i)), ABSENT);
    }

    private static void hintsAreAtMostTwelve() {
        about("\"HINTS: a list of at most 12\"");
        for (int count = 0; count <= 16; count++) {
            int kept = count < 12 ? count : 12;
            due("after " + count, hinted(count).hints(), kept);
            due("up after " + count, hinted(count).up(0), kept + 1);
            QuorumCells two = new QuorumCells(1);
            two.down(1);
            two.down(2);
            for (int i = 0; i < count; i++) {
                two.erase(hintedPlace(i), 1, 1);
            }
            due("for two nodes after " + count, two.hints(), count < 6 ? 2 * count : 12);
        }
        QuorumCells eleven = hinted(11);
        eleven.down(1);
        eleven.wipe(0, 1, 1);
        due("two more after eleven", eleven.hints(), 12);
    }

    private static void hintsHaveEntriesAndWipes() {
        about("\"each a node, and an entry with its place or a wipe with its partition\"");
        for (int partition = 0; partition < 8; partition++) {
            for (int node : REPLICAS[partition]) {
                int first = 8 * partition;
                QuorumCells x = new QuorumCells(1);
                x.down(node);
                x.write(first, LEAST, GREATEST, 1);
                x.write(first + 1, GREATEST, 4, 1);
                x.erase(first + 7, 5, 1);
                x.wipe(partition, 3, 1);
                String where = "partition " + partition + " of node " + node;
                due(where + ": up", x.up(node), 5);
                due(where + ": value", x.local(node, first), LEAST);
                due(where + ": its stamp", x.stamp(node, first), GREATEST);
                due(where + ": second value", x.local(node, first + 1), GREATEST);
                due(where + ": its stamp", x.stamp(node, first + 1), 4);
                due(where + ": DEAD", x.local(node, first + 7), ABSENT);
                due(where + ": its stamp", x.stamp(node, first + 7), 5);
                due(where + ": wipe", x.wiped(node, partition), 3);
                due(where + ": entries", x.flush(node), 3);
            }
        }
    }

    private static void theOldestHintGoesFirst() {
        about("\"Adding one to a full list, the oldest goes first.\"");
        for (int count = 11; count <= 16; count++) {
            QuorumCells x = hinted(count);
            due(count + " added", x.up(0), count == 11 ? 12 : 13);
            for (int i = 0; i < count; i++) {
                if (i < count - 12) {
                    hintIsGone(count + " added", x, i);
                } else {
                    hintCame(count + " added", x, i);
                }
            }
        }
        QuorumCells wipes = new QuorumCells(1);
        wipes.down(0);
        wipes.wipe(4, 1, 1);
        wipes.wipe(4, 2, 1);
        for (int i = 0; i < 12; i++) {
            wipes.erase(i % 8, 1, 1);
        }
        due("twelve after two wipes", wipes.up(0), 13);
        due("the wipes went", wipes.wiped(0, 4), ABSENT);

        QuorumCells newest = hinted(11);
        newest.write(0, 7, 90, 1);
        newest.wipe(4, 1, 1);
        due("a wipe added to a full list", newest.up(0), 13);
        due("it is there", newest.wiped(0, 4), 1);
        due("the one added before it too", newest.local(0, 0), 7);
        for (int i = 1; i < 11; i++) {
            hintCame("of those before", newest, i);
        }
    }

    private static void theOldestHintGoesWhomeverItIsFor() {
        about("\"Adding one to a full list, the oldest goes first.\" (for any node)");
        // Of partition 1 (on 1, 2, 3) a hint for 1 stands first; then come those for 0 of partition 2 (on 2, 3, 0).
        for (int more = 11; more <= 12; more++) {
            QuorumCells x = new QuorumCells(1);
            x.down(1);
            x.down(0);
            x.write(8, 5, 1, 1);
            for (int i = 0; i < more; i++) {
                x.write(16 + i % 8, 5, 1, 1);
            }
            due("hints after 1 and " + more, x.hints(), 12);
            due("of node 1 after " + more, x.up(1), more == 11 ? 2 : 1);
            due("its entry after " + more, x.stamp(1, 8), more == 11 ? 1 : ABSENT);
            due("of node 0 after " + more, x.up(0), more + 1);
        }
        // One call that adds two: to eleven, and to twelve.
        for (int count = 11; count <= 12; count++) {
            QuorumCells x = hinted(count);
            x.down(1);
            x.write(7, 9, 99, 1);
            due("of node 1, two added to " + count, x.up(1), 2);
            due("of node 0, two added to " + count, x.up(0), 12);
            hintIsGone("two added to " + count, x, 0);
            if (count == 11) {
                hintCame("two added to 11", x, 1);
            } else {
                hintIsGone("two added to 12", x, 1);
            }
            hintCame("two added to " + count, x, 2);
            due("the added one for 0", x.local(0, 7), 9);
            due("the added one for 1", x.local(1, 7), 9);
        }
    }

    private static void theOldestHintIsTheOldestOfThoseLeft() {
        about("\"Adding one to a full list, the oldest goes first.\" (after others have gone)");
        // Hints for 0 and 1 by turns; those for 1 go, and as many more for 0 make the list full again.
        QuorumCells x = hinted(0);
        x.down(1);
        for (int i = 0; i < 6; i++) {
            sendHint(x, i);
        }
        due("full with those for 1", x.hints(), 12);
        due("those for 1 go", x.up(1), 7);
        for (int i = 6; i < 12; i++) {
            sendHint(x, i);
        }
        due("full", x.hints(), 12);
        sendHint(x, 12);
        due("still full", x.hints(), 12);
        due("all for 0", x.up(0), 13);
        hintIsGone("one more than full", x, 0);
        for (int i = 1; i <= 12; i++) {
            hintCame("one more than full", x, i);
        }
    }

    private static void aFullListStaysWithoutAdding() {
        about("\"Adding one to a full list\" (and nothing is added)");
        QuorumCells x = hinted(12);
        x.write(24, 5, 1, 4);
        x.write(64, 5, 1, 1);
        x.write(0, 5, 90, 3);
        x.erase(0, 90, 3);
        x.wipe(0, 90, 3);
        // Partition 1 (on 1, 2, 3) has all its replicas up.
        x.write(8, 5, 1, 3);
        x.read(0, 2);
        x.sum(0, 2);
        x.down(0);
        x.up(1);
        x.flush(1);
        x.compact(1, 0);
        x.repair(1, 2);
        x.crash(0);
        due("hints", x.hints(), 12);
        due("up", x.up(0), 13);
        for (int i = 0; i < 12; i++) {
            hintCame("all", x, i);
        }
    }

    private static void hintsAreNoneAtFirst() {
        about("\"At first it is empty.\"");
        for (int node = 0; node < 4; node++) {
            QuorumCells x = new QuorumCells(1);
            due("hints", x.hints(), 0);
            x.down(node);
            due("for node " + node, x.up(node), 1);
            due("entries of node " + node, x.flush(node), 0);
        }
    }

    // Terms: levels and numbers

    private static void levelsAreOneToThree() {
        about("\"A LEVEL is 1, 2 or 3.\"");
        QuorumCells x = new QuorumCells(1);
        for (int level = 1; level <= 3; level++) {
            due("write with level " + level, x.write(0, 1, 2, level), 3);
            due("erase with level " + level, x.erase(1, 2, level), 3);
            due("wipe with level " + level, x.wipe(0, 1, level), 3);
            due("read with level " + level, x.read(0, level), 1);
            due("sum with level " + level, x.sum(0, level), 1);
        }
        for (int level : WRONG_LEVELS) {
            due("write with level " + level, x.write(0, 1, 2, level), REFUSED);
            due("erase with level " + level, x.erase(1, 2, level), REFUSED);
            due("wipe with level " + level, x.wipe(0, 1, level), REFUSED);
            due("read with level " + level, x.read(0, level), NONE);
            due("sum with level " + level, x.sum(0, level), NONE);
        }
    }

    private static void tooFewReplicasUp() {
        about("\"UNAVAILABLE is answered, and nothing changes, if fewer replicas of the partition are up than the level.\"");
        for (int downMask = 0; downMask < 16; downMask++) {
            for (int partition = 0; partition < 8; partition++) {
                for (int level = 1; level <= 3; level++) {
                    if (countUp(partition, downMask) < level) {
                        isUnavailable(downMask, partition, level);
                    } else {
                        isAvailable(downMask, partition, level);
                    }
                }
            }
        }
    }

    private static void isUnavailable(int downMask, int partition, int level) {
        int place = 8 * partition + 2;
        String where = " of " + partition + " with level " + level;
        changesNothing("write" + where, downMask, x -> x.write(place, 50, 50, level), UNAVAILABLE);
        changesNothing("erase" + where, downMask, x -> x.erase(place, 50, level), UNAVAILABLE);
        changesNothing("wipe" + where, downMask, x -> x.wipe(partition, 50, level), UNAVAILABLE);
        changesNothing("read" + where, downMask, x -> x.read(place, level), NONE);
        changesNothing("sum" + where, downMask, x -> x.sum(partition, level), NONE);
    }

    private static void isAvailable(int downMask, int partition, int level) {
        QuorumCells x = busy(downMask);
        int place = 8 * partition + 2;
        int up = countUp(partition, downMask);
        String where = " of " + partition + " with level " + level + " and mask " + downMask;
        due("write" + where, x.write(place, 50, 50, level), up);
        due("read" + where, x.read(place, level), 50);
        due("wipe" + where, x.wipe(partition, 49, level), up);
        due("sum" + where, x.sum(partition, level), 50);
        due("erase" + where, x.erase(place, 50, level), up);
        due("sum after erase" + where, x.sum(partition, level), 0);
    }

    private static void numbersAreTestedFirst() {
        about("\"Every call tests its numbers first: place, partition, node, level out of range: REFUSED (or what is said),"
            + " nothing changes.\"");
        for (int downMask = 0; downMask < 16; downMask++) {
            for (int place : WRONG_PLACES) {
                wrongPlace(downMask, place);
            }
            for (int partition : WRONG_PARTITIONS) {
                wrongPartition(downMask, partition);
            }
            for (int level : WRONG_LEVELS) {
                wrongLevel(downMask, level);
            }
            for (int node : WRONG_NODES) {
                wrongNode(downMask, node);
            }
        }
    }

    private static void wrongPlace(int downMask, int place) {
        String with = " with place " + place;
        changesNothing("write" + with, downMask, x -> x.write(place, 50, 50, 1), REFUSED);
        changesNothing("erase" + with, downMask, x -> x.erase(place, 50, 1), REFUSED);
        changesNothing("read" + with, downMask, x -> x.read(place, 2), NONE);
        changesNothing("local" + with, downMask, x -> x.local(0, place), NONE);
        changesNothing("stamp" + with, downMask, x -> x.stamp(0, place), NONE);
        changesNothing("write with wrong level" + with, downMask, x -> x.write(place, 50, 50, 0), REFUSED);
        changesNothing("erase with wrong level" + with, downMask, x -> x.erase(place, 50, 4), REFUSED);
        changesNothing("read with wrong level" + with, downMask, x -> x.read(place, 4), NONE);
    }

    private static void wrongPartition(int downMask, int partition) {
        String with = " with partition " + partition;
        changesNothing("wipe" + with, downMask, x -> x.wipe(partition, 50, 1), REFUSED);
        changesNothing("sum" + with, downMask, x -> x.sum(partition, 2), NONE);
        changesNothing("wiped" + with, downMask, x -> x.wiped(0, partition), NONE);
        changesNothing("wipe with wrong level" + with, downMask, x -> x.wipe(partition, 50, 0), REFUSED);
        changesNothing("sum with wrong level" + with, downMask, x -> x.sum(partition, 4), NONE);
    }

    private static void wrongLevel(int downMask, int level) {
        String with = " with level " + level;
        changesNothing("write" + with, downMask, x -> x.write(2, 50, 50, level), REFUSED);
        changesNothing("erase" + with, downMask, x -> x.erase(2, 50, level), REFUSED);
        changesNothing("wipe" + with, downMask, x -> x.wipe(0, 50, level), REFUSED);
        changesNothing("read" + with, downMask, x -> x.read(2, level), NONE);
        changesNothing("sum" + with, downMask, x -> x.sum(0, level), NONE);
    }

    private static void wrongNode(int downMask, int node) {
        String with = " with node " + node;
        changesNothing("down" + with, downMask, x -> x.down(node), REFUSED);
        changesNothing("up" + with, downMask, x -> x.up(node), REFUSED);
        changesNothing("crash" + with, downMask, x -> x.crash(node), REFUSED);
        changesNothing("flush" + with, downMask, x -> x.flush(node), REFUSED);
        changesNothing("compact" + with, downMask, x -> x.compact(node, 50), REFUSED);
        changesNothing("isUp" + with, downMask, x -> x.isUp(node), REFUSED);
        changesNothing("local" + with, downMask, x -> x.local(node, 0), NONE);
        changesNothing("stamp" + with, downMask, x -> x.stamp(node, 0), NONE);
        changesNothing("wiped" + with, downMask, x -> x.wiped(node, 0), NONE);
        for (int other = 0; other < 4; other++) {
            int second = other;
            changesNothing("repair" + with + " and " + other, downMask, x -> x.repair(node, second), REFUSED);
            changesNothing("repair of " + other + " and" + with, downMask, x -> x.repair(second, node), REFUSED);
        }
    }
}
