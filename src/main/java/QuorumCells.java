/** Cells kept on three of four nodes each, without a leader. */
public final class QuorumCells {
    public static final int REFUSED = -1;
    public static final int UNAVAILABLE = -2;
    public static final long ABSENT = 1000000000000L;
    public static final long NONE = -1000000000000L;

    private static final int NODES = 4;
    private static final int PARTITIONS = 8;
    private static final int CELLS = 8;
    private static final int PLACES = 64;
    private static final int REPLICAS = 3;
    private static final int HINT_LIMIT = 12;

    // A node has a slot for each place and behind these one for the wipe of each partition,
    // so that entries and wipes are taken in, hinted, flushed and repaired by the same code.
    private static final int SLOTS = 72;
    private static final int ALL_SLOTS = 288;

    // What a slot holds. At equal stamps the greater kind is the newer, so DEAD stands above VALUE.
    private static final int NOTHING = 0;
    private static final int VALUE = 1;
    private static final int DEAD = 2;
    private static final int WIPE = 3;

    private final boolean[] isDown = new boolean[NODES];

    // Slot s of node n is at n * SLOTS + s. The value is 0 in all but a VALUE.
    private final int[] heldKind = new int[ALL_SLOTS];
    private final int[] heldStamp = new int[ALL_SLOTS];
    private final int[] heldValue = new int[ALL_SLOTS];
    private final int[] flushedKind = new int[ALL_SLOTS];
    private final int[] flushedStamp = new int[ALL_SLOTS];
    private final int[] flushedValue = new int[ALL_SLOTS];

    // The oldest hint is at 0.
    private final boolean keepsHints;
    private int hintCount = 0;
    private final int[] hintNode = new int[HINT_LIMIT];
    private final int[] hintSlot = new int[HINT_LIMIT];
    private final int[] hintKind = new int[HINT_LIMIT];
    private final int[] hintStamp = new int[HINT_LIMIT];
    private final int[] hintValue = new int[HINT_LIMIT];

    public QuorumCells(int hints) {
        keepsHints = hints != 0;
    }

    public int write(int place, int value, int stamp, int level) {
        if (!isPlace(place) || !isLevel(level)) {
            return REFUSED;
        }
        return send(place, VALUE, stamp, value, level);
    }

    public int erase(int place, int stamp, int level) {
        if (!isPlace(place) || !isLevel(level)) {
            return REFUSED;
        }
        return send(place, DEAD, stamp, 0, level);
    }

    public int wipe(int partition, int stamp, int level) {
        if (!isPartition(partition) || !isLevel(level)) {
            return REFUSED;
        }
        return send(PLACES + partition, WIPE, stamp, 0, level);
    }

    public long read(int place, int level) {
        if (!isPlace(place) || !isLevel(level)) {
            return NONE;
        }
        if (countUpReplicas(place / CELLS) < level) {
            return NONE;
        }
        return askReplicas(place, level);
    }

    public long sum(int partition, int level) {
        if (!isPartition(partition) || !isLevel(level)) {
            return NONE;
        }
        if (countUpReplicas(partition) < level) {
            return NONE;
        }
        long total = 0;
        for (int cell = 0; cell < CELLS; cell++) {
            long value = askReplicas(partition * CELLS + cell, level);
            if (value != ABSENT) {
                total += value;
            }
        }
        return total;
    }

    public int down(int node) {
        if (!isNode(node)) {
            return REFUSED;
        }
        if (isDown[node]) {
            return 0;
        }
        isDown[node] = true;
        return 1;
    }

    public int up(int node) {
        if (!isNode(node)) {
            return REFUSED;
        }
        if (!isDown[node]) {
            return 0;
        }
        isDown[node] = false;
        return deliverHints(node) + 1;
    }

    public int crash(int node) {
        if (!isNode(node)) {
            return REFUSED;
        }
        restoreFlushed(node);
        isDown[node] = true;
        return countEntries(node);
    }

    public int flush(int node) {
        if (!isNode(node)) {
            return REFUSED;
        }
        if (isDown[node]) {
            return UNAVAILABLE;
        }
        keepAsFlushed(node);
        return countEntries(node);
    }

    public int compact(int node, int before) {
        if (!isNode(node)) {
            return REFUSED;
        }
        if (isDown[node]) {
            return UNAVAILABLE;
        }
        // Wipes go last: until then they still say which entries are hidden.
        dropHiddenEntries(node);
        dropOldDeadEntries(node, before);
        dropOldWipes(node, before);
        keepAsFlushed(node);
        return countEntries(node);
    }

    public int repair(int a, int b) {
        if (!isNode(a) || !isNode(b) || a == b) {
            return REFUSED;
        }
        if (isDown[a] || isDown[b]) {
            return UNAVAILABLE;
        }
        int changes = 0;
        for (int slot = 0; slot < SLOTS; slot++) {
            int partition = partitionOf(slot);
            if (isReplica(a, partition) && isReplica(b, partition)) {
                changes += takeFrom(b, a, slot);
                changes += takeFrom(a, b, slot);
            }
        }
        return changes;
    }

    public int isUp(int node) {
        if (!isNode(node)) {
            return REFUSED;
        }
        return isDown[node] ? 0 : 1;
    }

    public long local(int node, int place) {
        if (!isNode(node) || !isPlace(place)) {
            return NONE;
        }
        return liveValue(node, place);
    }

    public long stamp(int node, int place) {
        if (!isNode(node) || !isPlace(place)) {
            return NONE;
        }
        return slotStamp(node, place);
    }

    public long wiped(int node, int partition) {
        if (!isNode(node) || !isPartition(partition)) {
            return NONE;
        }
        return slotStamp(node, PLACES + partition);
    }

    public int hints() {
        return hintCount;
    }

    private static boolean isPlace(int place) {
        return place >= 0 && place < PLACES;
    }

    private static boolean isPartition(int partition) {
        return partition >= 0 && partition < PARTITIONS;
    }

    private static boolean isNode(int node) {
        return node >= 0 && node < NODES;
    }

    private static boolean isLevel(int level) {
        return level >= 1 && level <= REPLICAS;
    }

    private static int partitionOf(int slot) {
        return slot < PLACES ? slot / CELLS : slot - PLACES;
    }

    private static int replicaAt(int partition, int rank) {
        return (partition + rank) % NODES;
    }

    private static boolean isReplica(int node, int partition) {
        // PARTITIONS is a multiple of NODES: it keeps the difference from being negative, and no more.
        return (node + PARTITIONS - partition) % NODES < REPLICAS;
    }

    private int countUpReplicas(int partition) {
        int count = 0;
        for (int rank = 0; rank < REPLICAS; rank++) {
            if (!isDown[replicaAt(partition, rank)]) {
                count++;
            }
        }
        return count;
    }

    private int send(int slot, int kind, int stamp, int value, int level) {
        int partition = partitionOf(slot);
        int upCount = countUpReplicas(partition);
        if (upCount < level) {
            return UNAVAILABLE;
        }
        for (int rank = 0; rank < REPLICAS; rank++) {
            int node = replicaAt(partition, rank);
            if (isDown[node]) {
                addHint(node, slot, kind, stamp, value);
            } else {
                takeIn(node, slot, kind, stamp, value);
            }
        }
        return upCount;
    }

    /** Answers 1 if this changed what the node holds, else 0. */
    private int takeIn(int node, int slot, int kind, int stamp, int value) {
        int at = node * SLOTS + slot;
        if (!isNewerThanHeld(at, kind, stamp, value)) {
            return 0;
        }
        heldKind[at] = kind;
        heldStamp[at] = stamp;
        heldValue[at] = value;
        return 1;
    }

    private boolean isNewerThanHeld(int at, int kind, int stamp, int value) {
        if (kind == NOTHING) {
            return false;
        }
        if (heldKind[at] == NOTHING) {
            return true;
        }
        if (stamp != heldStamp[at]) {
            return stamp > heldStamp[at];
        }
        if (kind != heldKind[at]) {
            return kind > heldKind[at];
        }
        return value > heldValue[at];
    }

    private int takeFrom(int source, int node, int slot) {
        int at = source * SLOTS + slot;
        return takeIn(node, slot, heldKind[at], heldStamp[at], heldValue[at]);
    }

    /** Answers the agreed value or ABSENT; at least as many replicas as the level are up. */
    private long askReplicas(int place, int level) {
        int partition = place / CELLS;
        int last = lastAskedRank(partition, level);
        shareNewest(partition, place, last);
        shareNewest(partition, PLACES + partition, last);
        // All asked nodes now hold the answer's entry and wipe, so any one of them tells the answer.
        int node = replicaAt(partition, last);
        return liveValue(node, place);
    }

    /** The asked replicas are those that are up, up to this rank; the one of this rank is up. */
    private int lastAskedRank(int partition, int level) {
        int asked = 0;
        int last = 0;
        for (int rank = 0; rank < REPLICAS; rank++) {
            if (asked < level && !isDown[replicaAt(partition, rank)]) {
                asked++;
                last = rank;
            }
        }
        return last;
    }

    private void shareNewest(int partition, int slot, int last) {
        int at = newestHolder(partition, slot, last) * SLOTS + slot;
        for (int rank = 0; rank <= last; rank++) {
            int node = replicaAt(partition, rank);
            if (!isDown[node]) {
                takeIn(node, slot, heldKind[at], heldStamp[at], heldValue[at]);
            }
        }
    }

    private int newestHolder(int partition, int slot, int last) {
        int newest = replicaAt(partition, last);
        for (int rank = 0; rank < last; rank++) {
            int node = replicaAt(partition, rank);
            int at = node * SLOTS + slot;
            int newestAt = newest * SLOTS + slot;
            if (!isDown[node] && isNewerThanHeld(newestAt, heldKind[at], heldStamp[at], heldValue[at])) {
                newest = node;
            }
        }
        return newest;
    }

    private boolean isHidden(int node, int place) {
        int wipeAt = node * SLOTS + PLACES + place / CELLS;
        return heldKind[wipeAt] == WIPE && heldStamp[wipeAt] >= heldStamp[node * SLOTS + place];
    }

    private long liveValue(int node, int place) {
        int at = node * SLOTS + place;
        if (heldKind[at] != VALUE || isHidden(node, place)) {
            return ABSENT;
        }
        return heldValue[at];
    }

    private long slotStamp(int node, int slot) {
        int at = node * SLOTS + slot;
        if (heldKind[at] == NOTHING) {
            return ABSENT;
        }
        return heldStamp[at];
    }

    private int countEntries(int node) {
        int count = 0;
        for (int place = 0; place < PLACES; place++) {
            if (heldKind[node * SLOTS + place] != NOTHING) {
                count++;
            }
        }
        return count;
    }

    private void restoreFlushed(int node) {
        for (int slot = 0; slot < SLOTS; slot++) {
            int at = node * SLOTS + slot;
            heldKind[at] = flushedKind[at];
            heldStamp[at] = flushedStamp[at];
            heldValue[at] = flushedValue[at];
        }
    }

    private void keepAsFlushed(int node) {
        for (int slot = 0; slot < SLOTS; slot++) {
            int at = node * SLOTS + slot;
            flushedKind[at] = heldKind[at];
            flushedStamp[at] = heldStamp[at];
            flushedValue[at] = heldValue[at];
        }
    }

    private void dropHiddenEntries(int node) {
        for (int place = 0; place < PLACES; place++) {
            if (isHidden(node, place)) {
                empty(node * SLOTS + place);
            }
        }
    }

    private void dropOldDeadEntries(int node, int before) {
        for (int place = 0; place < PLACES; place++) {
            int at = node * SLOTS + place;
            if (heldKind[at] == DEAD && heldStamp[at] < before) {
                empty(at);
            }
        }
    }

    private void dropOldWipes(int node, int before) {
        for (int slot = PLACES; slot < SLOTS; slot++) {
            int at = node * SLOTS + slot;
            if (heldKind[at] == WIPE && heldStamp[at] < before) {
                empty(at);
            }
        }
    }

    private void empty(int at) {
        heldKind[at] = NOTHING;
        heldStamp[at] = 0;
        heldValue[at] = 0;
    }

    private void addHint(int node, int slot, int kind, int stamp, int value) {
        if (!keepsHints) {
            return;
        }
        if (hintCount >= HINT_LIMIT) {
            dropOldestHint();
        }
        hintNode[hintCount] = node;
        hintSlot[hintCount] = slot;
        hintKind[hintCount] = kind;
        hintStamp[hintCount] = stamp;
        hintValue[hintCount] = value;
        hintCount++;
    }

    private void dropOldestHint() {
        for (int i = 1; i < HINT_LIMIT; i++) {
            moveHint(i, i - 1);
        }
        hintCount = HINT_LIMIT - 1;
    }

    /** Answers how many hints went to the node; those for others keep their order. */
    private int deliverHints(int node) {
        int count = hintCount;
        int kept = 0;
        for (int i = 0; i < count; i++) {
            if (hintNode[i] == node) {
                takeIn(node, hintSlot[i], hintKind[i], hintStamp[i], hintValue[i]);
            } else {
                moveHint(i, kept);
                kept++;
            }
        }
        hintCount = kept;
        return count - kept;
    }

    private void moveHint(int from, int to) {
        hintNode[to] = hintNode[from];
        hintSlot[to] = hintSlot[from];
        hintKind[to] = hintKind[from];
        hintStamp[to] = hintStamp[from];
        hintValue[to] = hintValue[from];
    }
}
