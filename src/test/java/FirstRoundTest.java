// "The least round r in 0 .. 9" (settled) and "The first round (0 .. 10)" (reached): the first answer that
// there can be, the last one, and none.
public final class FirstRoundTest {
    public static void main(String[] args) {
        Due.sentence("settled: 0 is due", FirstRoundTest::settledAtOnce);
        Due.sentence("settled: 1 .. 7 are due", FirstRoundTest::settledBetween);
        Due.sentence("settled: the least such round", FirstRoundTest::settledLeast);
        Due.sentence("settled: 9 is due", FirstRoundTest::settledLast);
        Due.sentence("settled: -1 if there is none", FirstRoundTest::settledNever);
        Due.sentence("settled: -1 where only round 10 is at rest", FirstRoundTest::settledTooLate);
        Due.sentence("settled: no node's state differs", FirstRoundTest::settledOneNodeDiffers);
        Due.sentence("reached: 0 is due", FirstRoundTest::reachedAtOnce);
        Due.sentence("reached: the first of several rounds", FirstRoundTest::reachedFirst);
        Due.sentence("reached: 10 is due", FirstRoundTest::reachedLast);
        Due.sentence("reached: -2 if there is none", FirstRoundTest::reachedNever);
        Due.sentence("reached: -2 where only round 11 would have the value", FirstRoundTest::reachedTooLate);
        Due.end();
    }

    /** With every edge of 8 nodes, program 2 makes the sum of the starts times 8^(r-1) of every node in round r. */
    private static Run timesEight(int... starts) {
        Run x = Run.full(8).starts(starts);
        x.program(2);
        return x;
    }

    private static Run doubling(int a, int b) {
        Run x = Run.path(2).starts(a, b);
        x.program(2);
        return x;
    }

    private static void settledAtOnce() {
        for (int program = 0; program <= 5; program++) {
            Run zeros = Run.path(8);
            zeros.program(program);
            zeros.settled().due(0);
        }
        Run.path(3).starts(4, 4, 4).settled().due(0);
        // One edge apart and one apart in state: program 4 has nothing to do.
        Run steps = Run.path(3).starts(7, 8, 9);
        steps.program(4);
        steps.settled().due(0);
    }

    private static void settledBetween() {
        for (int n = 2; n <= 8; n++) {
            Run x = Run.path(n);
            x.start(0, 1);
            x.settled().due(n - 1);
        }
    }

    private static void settledLeast() {
        // All rounds from 1 on are at rest.
        Run.path(2).starts(3, 4).settled().due(1);
        doubling(5, -5).settled().due(1);
    }

    private static void settledLast() {
        // 256 = 2^8: after round 9 it is 2^32, which is 0 as an int, and after round 8 it is 2^29.
        timesEight(256).settled().due(9);
        timesEight(1, 200, -45, 100).settled().due(9);
        timesEight(-256).settled().due(9);
    }

    private static void settledNever() {
        doubling(1, 1).settled().due(-1);
        // Program 3 on three in a row from 1, 0, 0: the middle node is 0, 1, 0, 1 for ever.
        Run x = Run.path(3).starts(1, 0, 0);
        x.program(3);
        x.settled().due(-1);
        Run alone = new Run(2).starts(0, 1);
        alone.program(5);
        alone.settled().due(-1);
    }

    private static void settledTooLate() {
        // 128 = 2^7: 2^31 after round 9 and 0 after round 10, where it stays.
        Run x = timesEight(128);
        x.state(0, 9).due(Integer.MIN_VALUE);
        x.state(0, 10).due(0);
        x.settled().due(-1);
    }

    private static void settledOneNodeDiffers() {
        // The greatest start goes along the row, one node in each round.
        for (int n = 3; n <= 8; n++) {
            Run x = Run.path(n);
            x.start(n - 1, 1);
            x.changes(1).due(1);
            x.settled().due(n - 1);
        }
        // Only the first, or only the last node is not at rest.
        for (int v : new int[] {0, 7}) {
            Run x = new Run(8);
            x.start(v, 1);
            x.program(5);
            x.settled().due(-1);
        }
    }

    private static void reachedAtOnce() {
        Run x = Run.path(2).starts(-1000, 1000);
        x.reached(0, -1000).due(0);
        x.reached(1, 1000).due(0);
        new Run(8).reached(7, 0).due(0);
    }

    private static void reachedFirst() {
        // 0 1 0 1 .. in the middle and 1 1 0 0 .. at the first node: program 3 from 1, 0, 0.
        Run x = Run.path(3).starts(1, 0, 0);
        x.program(3);
        x.state(1, 0).due(0);
        x.state(1, 1).due(1);
        x.state(1, 2).due(0);
        x.state(1, 3).due(1);
        x.reached(1, 0).due(0);
        x.reached(1, 1).due(1);
        x.reached(0, 1).due(0);
    }

    private static void reachedLast() {
        Run x = doubling(1, 1);
        x.reached(0, 512).due(9);
        x.reached(0, 1024).due(10);
        x.reached(1, 1024).due(10);
    }

    private static void reachedNever() {
        Run x = doubling(1, 1);
        for (int value : new int[] {0, -1, 3, 1000, 1023, 1025, Integer.MIN_VALUE, Integer.MAX_VALUE}) {
            x.reached(0, value).due(-2);
            x.reached(1, value).due(-2);
        }
        // A state that the other node has is not one that this node has.
        Run apart = new Run(2).starts(3, 4);
        apart.reached(0, 4).due(-2);
        apart.reached(1, 3).due(-2);
    }

    private static void reachedTooLate() {
        doubling(1, 1).reached(0, 2048).due(-2);
        doubling(-1, -1).reached(1, -2048).due(-2);
    }
}
