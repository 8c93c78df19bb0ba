/**
 * Rounds of a node program on a small graph.
 *
 * The states after every round are kept in a table that the three calls which can
 * change them (edge, start, program) fill anew, so that a question only reads.
 */
public final class SafeSync {
    private static final int LEAST_NODES = 2;
    private static final int MOST_NODES = 8;
    private static final int LEAST_START = -1000;
    private static final int GREATEST_START = 1000;
    private static final int LAST_PROGRAM = 5;
    private static final int LAST_METHOD = 1;
    private static final int LAST_ROUND = 10;
    /** The rounds 0 .. LAST_ROUND, each with MOST_NODES states. */
    private static final int STATE_SLOTS = 88;

    private final int nodeCount;
    /** For each node the set of its neighbours: bit u stands for node u. */
    private final int[] neighbours = new int[MOST_NODES];
    /** Row p has the states after round p, so row 0 has the starts. */
    private final int[] states = new int[STATE_SLOTS];
    private int programKind;
    private int methodKind;
    /** Set and never read: no answer may depend on it. */
    private int scheduleSeed;

    public SafeSync(int nodes) {
        if (nodes < LEAST_NODES) {
            nodeCount = LEAST_NODES;
        } else if (nodes > MOST_NODES) {
            nodeCount = MOST_NODES;
        } else {
            nodeCount = nodes;
        }
        // The table needs no filling: with starts of 0, no edge and program 0 every state is 0.
    }

    public int nodes() {
        return nodeCount;
    }

    public int edge(int u, int v, int flag) {
        if (!isGood(u) || !isGood(v)) {
            return -1;
        }
        if (u == v) {
            return -2;
        }
        int before = joined(u, v) ? 1 : 0;
        if (flag != 0) {
            neighbours[u] |= 1 << v;
            neighbours[v] |= 1 << u;
        } else {
            neighbours[u] &= ~(1 << v);
            neighbours[v] &= ~(1 << u);
        }
        fillRounds();
        return before;
    }

    public int start(int v, int value) {
        if (!isGood(v)) {
            return -1;
        }
        if (value < LEAST_START || value > GREATEST_START) {
            return -2;
        }
        int before = stateAfter(0, v);
        states[v] = value;
        fillRounds();
        return before;
    }

    public int program(int kind) {
        if (kind < 0 || kind > LAST_PROGRAM) {
            return -1;
        }
        int before = programKind;
        programKind = kind;
        fillRounds();
        return before;
    }

    public int method(int kind) {
        if (kind < 0 || kind > LAST_METHOD) {
            return -1;
        }
        int before = methodKind;
        methodKind = kind;
        return before;
    }

    public void schedule(int seed) {
        scheduleSeed = seed;
    }

    public int edges() {
        return countEdges();
    }

    public int degree(int v) {
        if (!isGood(v)) {
            return -1;
        }
        return countNeighbours(v);
    }

    public int parts() {
        return countParts();
    }

    public int state(int v, int round) {
        if (!isGood(v) || !isRound(round)) {
            return 0;
        }
        return stateAfter(round, v);
    }

    public int sum(int round) {
        if (!isRound(round)) {
            return 0;
        }
        int total = 0;
        for (int v = 0; v < nodeCount; v++) {
            total += stateAfter(round, v);
        }
        return total;
    }

    public int kinds(int round) {
        if (!isRound(round)) {
            return -1;
        }
        int count = 0;
        for (int v = 0; v < nodeCount; v++) {
            if (isFirstWithItsState(round, v)) {
                count++;
            }
        }
        return count;
    }

    public int settled() {
        for (int round = 0; round < LAST_ROUND; round++) {
            if (countChanges(round + 1) == 0) {
                return round;
            }
        }
        return -1;
    }

    public int changes(int round) {
        // Round 0 is made from no other round, so nothing changes into it.
        if (!isRound(round) || round == 0) {
            return -1;
        }
        return countChanges(round);
    }

    public int reached(int v, int value) {
        if (!isGood(v)) {
            return -1;
        }
        for (int round = 0; round <= LAST_ROUND; round++) {
            if (stateAfter(round, v) == value) {
                return round;
            }
        }
        return -2;
    }

    public int overhead(int round) {
        if (!isRound(round)) {
            return -1;
        }
        return round * overheadOfOneRound();
    }

    private boolean isGood(int v) {
        return v >= 0 && v < nodeCount;
    }

    private boolean isRound(int round) {
        return round >= 0 && round <= LAST_ROUND;
    }

    private boolean joined(int u, int v) {
        return ((neighbours[u] >> v) & 1) == 1;
    }

    private int stateAfter(int round, int v) {
        return states[round * MOST_NODES + v];
    }

    private void fillRounds() {
        for (int round = 1; round <= LAST_ROUND; round++) {
            for (int v = 0; v < nodeCount; v++) {
                states[round * MOST_NODES + v] = nextState(round - 1, v);
            }
        }
    }

    private int nextState(int round, int v) {
        switch (programKind) {
            case 0:
                return greatestAround(round, v);
            case 1:
                return leastAround(round, v, 0);
            case 2:
                return stateAfter(round, v) + sumOfNeighbours(round, v);
            case 3:
                return exclusiveOrAround(round, v);
            case 4:
                return leastAround(round, v, 1);
            default:
                return 3 * stateAfter(round, v) - sumOfNeighbours(round, v);
        }
    }

    private int greatestAround(int round, int v) {
        int greatest = stateAfter(round, v);
        for (int u = 0; u < nodeCount; u++) {
            if (joined(v, u) && stateAfter(round, u) > greatest) {
                greatest = stateAfter(round, u);
            }
        }
        return greatest;
    }

    /**
     * The least of the node's own state and each neighbour's state plus the step.
     * The step can't wrap: programs 1 and 4 never leave the range of the starts.
     */
    private int leastAround(int round, int v, int step) {
        int least = stateAfter(round, v);
        for (int u = 0; u < nodeCount; u++) {
            if (joined(v, u) && stateAfter(round, u) + step < least) {
                least = stateAfter(round, u) + step;
            }
        }
        return least;
    }

    private int sumOfNeighbours(int round, int v) {
        int total = 0;
        for (int u = 0; u < nodeCount; u++) {
            if (joined(v, u)) {
                total += stateAfter(round, u);
            }
        }
        return total;
    }

    private int exclusiveOrAround(int round, int v) {
        int mixed = stateAfter(round, v);
        for (int u = 0; u < nodeCount; u++) {
            if (joined(v, u)) {
                mixed ^= stateAfter(round, u);
            }
        }
        return mixed;
    }

    private boolean isFirstWithItsState(int round, int v) {
        for (int u = 0; u < v; u++) {
            if (stateAfter(round, u) == stateAfter(round, v)) {
                return false;
            }
        }
        return true;
    }

    private int countChanges(int round) {
        int count = 0;
        for (int v = 0; v < nodeCount; v++) {
            if (stateAfter(round, v) != stateAfter(round - 1, v)) {
                count++;
            }
        }
        return count;
    }

    private int countNeighbours(int v) {
        int count = 0;
        for (int u = 0; u < nodeCount; u++) {
            if (joined(v, u)) {
                count++;
            }
        }
        return count;
    }

    private int countEdges() {
        int ends = 0;
        for (int v = 0; v < nodeCount; v++) {
            ends += countNeighbours(v);
        }
        return ends / 2;
    }

    /** Every part has one least node, so the least nodes are counted. */
    private int countParts() {
        int count = 0;
        for (int v = 0; v < nodeCount; v++) {
            int lesserNodes = (1 << v) - 1;
            if ((partOf(v) & lesserNodes) == 0) {
                count++;
            }
        }
        return count;
    }

    /** The part as a set of bits; no node is further away than nodeCount - 1 edges. */
    private int partOf(int v) {
        int part = 1 << v;
        for (int step = 1; step < nodeCount; step++) {
            part = withNeighbours(part);
        }
        return part;
    }

    private int withNeighbours(int set) {
        int wider = set;
        for (int v = 0; v < nodeCount; v++) {
            if (((set >> v) & 1) == 1) {
                wider |= neighbours[v];
            }
        }
        return wider;
    }

    private int overheadOfOneRound() {
        int edgeCount = countEdges();
        if (methodKind == 0) {
            return 4 * edgeCount;
        }
        return 2 * edgeCount + 2 * (nodeCount - countParts());
    }
}
