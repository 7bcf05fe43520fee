/** A tree whose nodes are moved at three replicas at once; README.md tells its use. */
public final class MoveTree {
    private static final int REPLICAS = 3;
    private static final int NODES = 10;
    private static final int ROOT = 0;
    private static final int MOST_CHANGES = 60;

    // No two changes have the same stamp, and a stamp's number is at most MOST_CHANGES.
    // So each stamp that can be has a slot, (number - 1) * REPLICAS + origin, and going
    // through the slots upwards is going through the changes from the earliest on.
    private static final int SLOTS = MOST_CHANGES * REPLICAS;

    private static final int REPLICA_SLOTS = REPLICAS * SLOTS;
    private static final int REPLICA_NODES = REPLICAS * NODES;

    private static final int NONE = -1;
    private static final int REFUSED = -1;

    // The changes, by slot. The operand is a move's new parent or a naming's label.
    private final boolean[] isMove = new boolean[SLOTS];
    private final int[] changedNode = new int[SLOTS];
    private final int[] operand = new int[SLOTS];
    private int changesMade = 0;

    // By replica * SLOTS + slot.
    private final boolean[] known = new boolean[REPLICA_SLOTS];

    // What the replicas show, by replica * NODES + node.
    private final int[] shownParent = new int[REPLICA_NODES];
    private final int[] shownLabel = new int[REPLICA_NODES];
    private final int[] skippedMoves = new int[REPLICAS];

    public MoveTree() {
        for (int i = 0; i < REPLICA_NODES; i++) {
            shownParent[i] = NONE;
        }
    }

    public int move(int replica, int node, int p) {
        if (!isReplica(replica) || !isNode(node) || node == ROOT || !isNode(p)) {
            return REFUSED;
        }
        if (changesMade >= MOST_CHANGES) {
            return REFUSED;
        }
        return make(replica, true, node, p);
    }

    public int name(int replica, int node, int label) {
        if (!isReplica(replica) || !isNode(node) || changesMade >= MOST_CHANGES) {
            return REFUSED;
        }
        return make(replica, false, node, label);
    }

    public int deliver(int from, int to) {
        if (!isReplica(from) || !isReplica(to)) {
            return REFUSED;
        }
        int slot = firstMissing(from, to);
        if (slot == NONE) {
            return REFUSED;
        }
        known[to * SLOTS + slot] = true;
        showAnew(to);
        return skippedMoves[to];
    }

    public int sync(int from, int to) {
        if (!isReplica(from) || !isReplica(to)) {
            return REFUSED;
        }
        int learnt = 0;
        for (int slot = 0; slot < SLOTS; slot++) {
            if (isMissing(from, to, slot)) {
                known[to * SLOTS + slot] = true;
                learnt++;
            }
        }
        showAnew(to);
        return learnt;
    }

    public int parent(int replica, int node) {
        if (!isReplica(replica) || !isNode(node)) {
            return REFUSED;
        }
        return shownParent[replica * NODES + node];
    }

    public int label(int replica, int node) {
        if (!isReplica(replica) || !isNode(node)) {
            return 0;
        }
        return shownLabel[replica * NODES + node];
    }

    public int children(int replica, int node) {
        if (!isReplica(replica) || !isNode(node)) {
            return REFUSED;
        }
        int count = 0;
        for (int child = 0; child < NODES; child++) {
            if (shownParent[replica * NODES + child] == node) {
                count++;
            }
        }
        return count;
    }

    public int depth(int replica, int node) {
        if (!isReplica(replica) || !isNode(node)) {
            return REFUSED;
        }
        int steps = 0;
        int above = shownParent[replica * NODES + node];
        while (above != NONE && steps < NODES) {
            steps++;
            above = shownParent[replica * NODES + above];
        }
        return steps;
    }

    public int skipped(int replica) {
        if (!isReplica(replica)) {
            return REFUSED;
        }
        return skippedMoves[replica];
    }

    public int alike(int a, int b) {
        if (!isReplica(a) || !isReplica(b)) {
            return REFUSED;
        }
        for (int node = 0; node < NODES; node++) {
            int atA = a * NODES + node;
            int atB = b * NODES + node;
            if (shownParent[atA] != shownParent[atB] || shownLabel[atA] != shownLabel[atB]) {
                return 0;
            }
        }
        return 1;
    }

    private static boolean isReplica(int replica) {
        return replica >= 0 && replica < REPLICAS;
    }

    private static boolean isNode(int node) {
        return node >= 0 && node < NODES;
    }

    // The new change is later than all that its origin knows, so what the origin shows
    // is right once this one is carried out on top of it.
    private int make(int origin, boolean move, int node, int value) {
        int slot = nextSlot(origin);
        isMove[slot] = move;
        changedNode[slot] = node;
        operand[slot] = value;
        known[origin * SLOTS + slot] = true;
        changesMade++;
        return carryOut(origin, slot);
    }

    // Stays below SLOTS: a stamp's number is at most one more than the count of the
    // changes made before, and make is called only while that is below MOST_CHANGES.
    private int nextSlot(int origin) {
        for (int slot = SLOTS - 1; slot >= 0; slot--) {
            if (known[origin * SLOTS + slot]) {
                return (slot / REPLICAS + 1) * REPLICAS + origin;
            }
        }
        return origin;
    }

    // An origin knows all its own changes, and their numbers rise with their slots.
    private int firstMissing(int origin, int to) {
        for (int slot = origin; slot < SLOTS; slot += REPLICAS) {
            if (isMissing(origin, to, slot)) {
                return slot;
            }
        }
        return NONE;
    }

    private boolean isMissing(int from, int to, int slot) {
        return known[from * SLOTS + slot] && !known[to * SLOTS + slot];
    }

    private void showAnew(int replica) {
        for (int node = 0; node < NODES; node++) {
            shownParent[replica * NODES + node] = NONE;
            shownLabel[replica * NODES + node] = 0;
        }
        skippedMoves[replica] = 0;
        for (int slot = 0; slot < SLOTS; slot++) {
            if (known[replica * SLOTS + slot]) {
                carryOut(replica, slot);
            }
        }
    }

    // Answers 1 if the change is a move that is skipped, else 0.
    private int carryOut(int replica, int slot) {
        int node = changedNode[slot];
        if (!isMove[slot]) {
            shownLabel[replica * NODES + node] = operand[slot];
            return 0;
        }
        if (isAtOrAbove(replica, node, operand[slot])) {
            skippedMoves[replica]++;
            return 1;
        }
        shownParent[replica * NODES + node] = operand[slot];
        return 0;
    }

    private boolean isAtOrAbove(int replica, int node, int start) {
        int at = start;
        for (int seen = 0; seen < NODES && at != NONE; seen++) {
            if (at == node) {
                return true;
            }
            at = shownParent[replica * NODES + at];
        }
        return false;
    }
}
