// Every sentence of the document that says what is too small or too large, with the first and the last
// input that is neither. The wrong inputs are just outside, far off, and such as would be right again
// if they were cut to fewer bits, shifted (by 32 and more) or multiplied by 8 with a wrap-around.
public final class TooSmallTooLargeTest {
    private static final int MIN = Integer.MIN_VALUE;
    private static final int MAX = Integer.MAX_VALUE;
    private static final int[] BAD_ROUNDS = {-1, -2, -10, 11, 12, 13, 16, 32, 256, 65536 + 3, 1 << 28, 1 << 29,
        (1 << 29) + 1, -(1 << 29), MIN, MIN + 1, MIN + 10, MAX - 1, MAX};

    public static void main(String[] args) {
        Due.sentence("nodes is n: below 2 becomes 2", TooSmallTooLargeTest::nodesBelowTwo);
        Due.sentence("nodes is n: above 8 becomes 8", TooSmallTooLargeTest::nodesAboveEight);
        Due.sentence("nodes is n, 2 .. 8", TooSmallTooLargeTest::nodesTwoToEight);
        Due.sentence("edge: -1 if u is not good", TooSmallTooLargeTest::edgeFirstNode);
        Due.sentence("edge: -1 if v is not good", TooSmallTooLargeTest::edgeSecondNode);
        Due.sentence("edge: good is 0 .. n-1", TooSmallTooLargeTest::edgeGoodNodes);
        Due.sentence("start: -1 if v is not good", TooSmallTooLargeTest::startNode);
        Due.sentence("start: good is 0 .. n-1", TooSmallTooLargeTest::startGoodNodes);
        Due.sentence("start: -2 if value is not in -1000 .. 1000", TooSmallTooLargeTest::startValue);
        Due.sentence("start: -1000 and 1000 themselves", TooSmallTooLargeTest::startEndValues);
        Due.sentence("program: -1 if kind is not in 0 .. 5", TooSmallTooLargeTest::programKind);
        Due.sentence("program: 0 and 5 themselves", TooSmallTooLargeTest::programEndKinds);
        Due.sentence("method: -1 if kind is not 0 or 1", TooSmallTooLargeTest::methodKind);
        Due.sentence("method: 0 and 1 themselves", TooSmallTooLargeTest::methodEndKinds);
        Due.sentence("degree: -1 if v is not good", TooSmallTooLargeTest::degreeNode);
        Due.sentence("degree: good is 0 .. n-1", TooSmallTooLargeTest::degreeGoodNodes);
        Due.sentence("state: 0 if v is not good", TooSmallTooLargeTest::stateNode);
        Due.sentence("state: good is 0 .. n-1", TooSmallTooLargeTest::stateGoodNodes);
        Due.sentence("state: 0 if round is not in 0 .. 10", TooSmallTooLargeTest::stateRound);
        Due.sentence("state: rounds 0 and 10 themselves", TooSmallTooLargeTest::stateEndRounds);
        Due.sentence("sum: 0 if round is not in 0 .. 10", TooSmallTooLargeTest::sumRound);
        Due.sentence("sum: rounds 0 and 10 themselves", TooSmallTooLargeTest::sumEndRounds);
        Due.sentence("kinds: -1 if round is not in 0 .. 10", TooSmallTooLargeTest::kindsRound);
        Due.sentence("kinds: rounds 0 and 10 themselves", TooSmallTooLargeTest::kindsEndRounds);
        Due.sentence("changes: -1 if round is not in 1 .. 10", TooSmallTooLargeTest::changesRound);
        Due.sentence("changes: rounds 1 and 10 themselves", TooSmallTooLargeTest::changesEndRounds);
        Due.sentence("reached: -1 if v is not good", TooSmallTooLargeTest::reachedNode);
        Due.sentence("reached: good is 0 .. n-1", TooSmallTooLargeTest::reachedGoodNodes);
        Due.sentence("overhead: -1 if round is not in 0 .. 10", TooSmallTooLargeTest::overheadRound);
        Due.sentence("overhead: rounds 0 and 10 themselves", TooSmallTooLargeTest::overheadEndRounds);
        Due.end();
    }

    private static int[] badNodes(int n) {
        return new int[] {-1, -2, -n, -8, -32, -256, n, n + 1, 8, 9, 31, 32, 33, 32 + n - 1, 64, 256, 256 + n - 1,
            65536, 65536 + n - 1, MIN, MIN + 1, MIN + n - 1, MAX - 1, MAX};
    }

    /** Nodes in a row with the starts 1 .. n, added up: no state is 0 after any round. */
    private static Run neverZero(int n) {
        Run x = Run.path(n);
        for (int v = 0; v < n; v++) {
            x.start(v, v + 1);
        }
        x.program(2);
        return x;
    }

    /** Added up from 1, 0 and 512, with nodes 0 and 1 joined: both are 2^(r-1) after round r, node 2 stays. */
    private static Run doubling() {
        Run x = new Run(3).starts(1, 0, 512);
        x.edge(0, 1, 1);
        x.program(2);
        return x;
    }

    private static void hasNodes(int asked, int want) {
        Run x = new Run(asked);
        x.nodes().due(want);
        x.parts().due(want);
        x.degree(want - 1).due(0);
        x.degree(want).due(-1);
        x.start(want - 1, 9).due(0);
        x.start(want, 9).due(-1);
        x.edge(0, want - 1, 1).due(0);
        x.edge(0, want, 1).due(-1);
        x.state(0, 1).due(9);
        x.sum(0).due(9);
        x.sum(1).due(18);
        x.nodes().due(want);
    }

    private static void nodesBelowTwo() {
        for (int nodes : new int[] {1, 0, -1, -2, -8, -1000, MIN + 1, MIN + 8, MIN}) {
            hasNodes(nodes, 2);
        }
    }

    private static void nodesAboveEight() {
        for (int nodes : new int[] {9, 10, 16, 32, 256 + 3, 65536 + 4, MAX - 1, MAX}) {
            hasNodes(nodes, 8);
        }
    }

    private static void nodesTwoToEight() {
        for (int nodes = 2; nodes <= 8; nodes++) {
            hasNodes(nodes, nodes);
        }
    }

    private static void edgeFirstNode() {
        for (int n = 2; n <= 8; n++) {
            Run x = Run.path(n);
            for (int bad : badNodes(n)) {
                x.edge(bad, 0, 1).due(-1);
                x.edge(bad, n - 1, 0).due(-1);
            }
            x.edges().due(n - 1);
        }
    }

    private static void edgeSecondNode() {
        for (int n = 2; n <= 8; n++) {
            Run x = Run.path(n);
            for (int bad : badNodes(n)) {
                x.edge(0, bad, 1).due(-1);
                x.edge(n - 1, bad, 0).due(-1);
            }
            x.edges().due(n - 1);
        }
    }

    private static void edgeGoodNodes() {
        for (int n = 2; n <= 8; n++) {
            Run x = new Run(n);
            x.edge(0, n - 1, 1).due(0);
            x.edge(n - 1, 0, 1).due(1);
            x.degree(0).due(1);
            x.degree(n - 1).due(1);
        }
    }

    private static void startNode() {
        for (int n = 2; n <= 8; n++) {
            Run x = new Run(n);
            for (int bad : badNodes(n)) {
                x.start(bad, 5).due(-1);
                x.start(bad, 1000).due(-1);
            }
            x.sum(0).due(0);
            x.kinds(0).due(1);
        }
    }

    private static void startGoodNodes() {
        for (int n = 2; n <= 8; n++) {
            Run x = new Run(n);
            x.start(0, 5).due(0);
            x.start(n - 1, 6).due(0);
            x.start(0, 7).due(5);
            x.start(n - 1, 8).due(6);
            x.sum(0).due(15);
        }
    }

    private static void startValue() {
        int[] bad = {-1001, 1001, -1002, 1002, -2000, 2000, 32767, -32768, 65536, 65536 + 5, 65536 - 5, -65536 + 5,
            1 << 24, MIN, MIN + 1, MIN + 1000, MAX - 1, MAX};
        Run x = new Run(3).starts(4, 0, 9);
        for (int value : bad) {
            for (int v = 0; v < 3; v++) {
                x.start(v, value).due(-2);
            }
        }
        x.statesDue(0, 4, 0, 9);
    }

    private static void startEndValues() {
        Run x = new Run(2);
        x.start(0, 1000).due(0);
        x.start(1, -1000).due(0);
        x.statesDue(0, 1000, -1000);
        x.start(0, -1000).due(1000);
        x.start(1, 1000).due(-1000);
        x.statesDue(0, -1000, 1000);
        x.start(0, -999).due(-1000);
        x.start(1, 999).due(1000);
        x.statesDue(0, -999, 999);
    }

    private static void programKind() {
        for (int program = 0; program <= 5; program++) {
            Run x = new Run(2);
            x.program(program).due(0);
            for (int bad : new int[] {-1, -2, -5, 6, 7, 8, 12, 32, 256, 65536 + 1, MIN, MIN + 5, MAX - 1, MAX}) {
                x.program(bad).due(-1);
            }
            x.program(0).due(program);
        }
    }

    private static void programEndKinds() {
        Run x = Run.path(2).starts(10, 1);
        x.program(5).due(0);
        x.statesDue(1, 29, -7);
        x.program(0).due(5);
        x.statesDue(1, 10, 10);
        x.program(0).due(0);
    }

    private static void methodKind() {
        for (int method = 0; method <= 1; method++) {
            Run x = new Run(2);
            x.method(method).due(0);
            for (int bad : new int[] {-1, -2, 2, 3, 4, 32, 33, 256 + 1, 65536, MIN, MIN + 1, MAX - 1, MAX}) {
                x.method(bad).due(-1);
            }
            x.method(0).due(method);
        }
    }

    private static void methodEndKinds() {
        // 3 edges, 3 nodes, 1 part: 12 with method 0, 6 + 4 with method 1.
        Run x = Run.full(3);
        x.method(1).due(0);
        x.overhead(1).due(10);
        x.method(0).due(1);
        x.overhead(1).due(12);
        x.method(0).due(0);
    }

    private static void degreeNode() {
        for (int n = 2; n <= 8; n++) {
            Run x = Run.full(n);
            for (int bad : badNodes(n)) {
                x.degree(bad).due(-1);
            }
        }
    }

    private static void degreeGoodNodes() {
        for (int n = 2; n <= 8; n++) {
            Run x = Run.full(n);
            x.degree(0).due(n - 1);
            x.degree(n - 1).due(n - 1);
        }
    }

    private static void stateNode() {
        for (int n = 2; n <= 8; n++) {
            Run x = neverZero(n);
            for (int bad : badNodes(n)) {
                x.state(bad, 0).due(0);
                x.state(bad, 1).due(0);
                x.state(bad, 9).due(0);
                x.state(bad, 10).due(0);
            }
        }
    }

    private static void stateGoodNodes() {
        for (int n = 3; n <= 8; n++) {
            Run x = neverZero(n);
            x.state(0, 0).due(1);
            x.state(n - 1, 0).due(n);
            x.state(0, 1).due(1 + 2);
            x.state(n - 1, 1).due(n - 1 + n);
        }
    }

    private static void stateRound() {
        for (int n = 2; n <= 8; n++) {
            Run x = neverZero(n);
            for (int bad : BAD_ROUNDS) {
                for (int v = 0; v < n; v++) {
                    x.state(v, bad).due(0);
                }
            }
        }
    }

    private static void stateEndRounds() {
        Run x = doubling();
        x.statesDue(0, 1, 0, 512);
        x.statesDue(9, 256, 256, 512);
        x.statesDue(10, 512, 512, 512);
        // Node 2 stays, so it tells nothing of the rounds; here all three nodes change in each.
        Run row = neverZero(3);
        row.statesDue(0, 1, 2, 3);
        row.statesDue(9, 4755, 6726, 4757);
        row.statesDue(10, 11481, 16238, 11483);
    }

    private static void sumRound() {
        Run x = neverZero(8);
        for (int bad : BAD_ROUNDS) {
            x.sum(bad).due(0);
        }
    }

    private static void sumEndRounds() {
        Run x = doubling();
        x.sum(0).due(513);
        x.sum(9).due(1024);
        x.sum(10).due(1536);
    }

    private static void kindsRound() {
        Run x = neverZero(8);
        for (int bad : BAD_ROUNDS) {
            x.kinds(bad).due(-1);
        }
    }

    private static void kindsEndRounds() {
        Run x = doubling();
        x.kinds(0).due(3);
        x.kinds(1).due(2);
        x.kinds(9).due(2);
        x.kinds(10).due(1);
    }

    private static void changesRound() {
        Run x = neverZero(8);
        x.changes(0).due(-1);
        for (int bad : BAD_ROUNDS) {
            x.changes(bad).due(-1);
        }
    }

    private static void changesEndRounds() {
        Run x = doubling();
        x.changes(1).due(1);
        x.changes(2).due(2);
        x.changes(10).due(2);
        // With every edge of 8 nodes the sum 128 = 2^7 is 8 times itself in each round, 2^31 after 9 rounds
        // and 0 after 10: all nodes change even in the last one.
        Run late = Run.full(8).starts(128);
        late.program(2);
        late.changes(10).due(8);
        // The sum 256 is 0 after 9 rounds.
        late.start(0, 256);
        late.changes(9).due(8);
        late.changes(10).due(0);
    }

    private static void reachedNode() {
        for (int n = 2; n <= 8; n++) {
            Run x = neverZero(n);
            for (int bad : badNodes(n)) {
                x.reached(bad, 1).due(-1);
                x.reached(bad, 0).due(-1);
                x.reached(bad, n).due(-1);
            }
        }
    }

    private static void reachedGoodNodes() {
        for (int n = 3; n <= 8; n++) {
            Run x = neverZero(n);
            x.reached(0, 1).due(0);
            x.reached(0, 1 + 2).due(1);
            x.reached(n - 1, n).due(0);
            x.reached(n - 1, n - 1 + n).due(1);
        }
    }

    private static void overheadRound() {
        for (int method = 0; method <= 1; method++) {
            Run x = Run.path(5);
            x.method(method);
            for (int bad : BAD_ROUNDS) {
                x.overhead(bad).due(-1);
            }
            Run none = new Run(2);
            none.method(method);
            for (int bad : BAD_ROUNDS) {
                none.overhead(bad).due(-1);
            }
        }
    }

    private static void overheadEndRounds() {
        // 5 edges, 5 nodes, 1 part: 20 with method 0, 10 + 8 with method 1.
        Run ring = Run.path(5);
        ring.edge(4, 0, 1);
        ring.overhead(0).due(0);
        ring.overhead(1).due(20);
        ring.overhead(10).due(200);
        ring.method(1);
        ring.overhead(0).due(0);
        ring.overhead(1).due(18);
        ring.overhead(10).due(180);
    }
}
