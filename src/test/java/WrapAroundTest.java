// "wrapping like ints": programs 2 and 5 with states that leave the range of an int within ten rounds,
// a sum that does, and what the other questions answer of such states.
public final class WrapAroundTest {
    private static final int MIN = Integer.MIN_VALUE;

    public static void main(String[] args) {
        Due.sentence("program 2 wraps upwards", WrapAroundTest::programTwoUpwards);
        Due.sentence("program 2 wraps downwards", WrapAroundTest::programTwoDownwards);
        Due.sentence("program 2 ends at 2^31 and -2^31", WrapAroundTest::programTwoAtTheEnds);
        Due.sentence("program 5 wraps upwards and downwards", WrapAroundTest::programFive);
        Due.sentence("program 5 wraps in the sum of the neighbours", WrapAroundTest::programFiveOfStar);
        Due.sentence("sum wraps where no state does", WrapAroundTest::sumAlone);
        Due.sentence("sum of states that wrapped", WrapAroundTest::sumOfWrappedStates);
        Due.sentence("kinds of states that wrapped", WrapAroundTest::kindsOfWrappedStates);
        Due.sentence("settled after a wrap", WrapAroundTest::settledAfterWrap);
        Due.sentence("changes after a wrap", WrapAroundTest::changesAfterWrap);
        Due.sentence("reached after a wrap", WrapAroundTest::reachedAfterWrap);
        Due.end();
    }

    /** With every edge of 8 nodes, program 2 makes 8 * s of equal states s. */
    private static Run timesEight(int start) {
        Run x = Run.full(8).starts(start, start, start, start, start, start, start, start);
        x.program(2);
        return x;
    }

    /**
     * Nodes 0 .. 3 of start a, each joined to all of 4 .. 7 of start b. Program 5 makes 3 * a - 4 * b and
     * 3 * b - 4 * a of them, so that a - b becomes 7 times itself and a + b becomes its negative.
     */
    private static Run twoSides(int a, int b) {
        Run x = new Run(8).starts(a, a, a, a, b, b, b, b);
        for (int u = 0; u < 4; u++) {
            for (int v = 4; v < 8; v++) {
                x.edge(u, v, 1);
            }
        }
        x.program(5);
        return x;
    }

    private static void programTwoUpwards() {
        Run x = timesEight(1000);
        // 1000 * 8^7 is the last below 2^31; 1000 * 8^8 - 4 * 2^32 is -402653184.
        // 1000 = 125 * 2^3, so round 9 is 125 * 2^30, which is 2^30 as an int, and round 10 is 0.
        int[] due = {1000, 8000, 64000, 512000, 4096000, 32768000, 262144000, 2097152000, -402653184, 1073741824, 0};
        for (int round = 0; round <= 10; round++) {
            x.state(0, round).due(due[round]);
            x.state(7, round).due(due[round]);
        }
        // 999 is odd, so it is not 0 by then: from round 8 on less 4 * 2^32, 31 * 2^32 and 250 * 2^32.
        Run odd = timesEight(999);
        odd.state(3, 7).due(2095054848);
        odd.state(3, 8).due(-419430400);
        odd.state(3, 9).due(939524096);
        odd.state(3, 10).due(-1073741824);
    }

    private static void programTwoDownwards() {
        Run x = timesEight(-1000);
        x.state(0, 7).due(-2097152000);
        x.state(0, 8).due(402653184);
        x.state(0, 9).due(-1073741824);
        x.state(0, 10).due(0);
    }

    private static void programTwoAtTheEnds() {
        // 16 * 8^9 is 2^31, one more than the greatest int; -16 * 8^9 is the least int and no wrap at all.
        Run up = timesEight(16);
        up.state(5, 8).due(268435456);
        up.state(5, 9).due(MIN);
        up.state(5, 10).due(0);
        Run down = timesEight(-16);
        down.state(5, 8).due(-268435456);
        down.state(5, 9).due(MIN);
        down.state(5, 10).due(0);
    }

    private static void programFive() {
        Run x = twoSides(1000, -1000);
        // 1000 * 7^r: 7^7 = 823543, 7^8 = 5764801, 7^9 = 40353607, 7^10 = 282475249.
        x.state(0, 1).due(7000);
        x.state(7, 1).due(-7000);
        x.state(0, 7).due(823543000);
        x.state(7, 7).due(-823543000);
        // 5764801000 - 2^32
        x.state(0, 8).due(1469833704);
        x.state(7, 8).due(-1469833704);
        // 40353607000 - 9 * 2^32
        x.state(0, 9).due(1698901336);
        x.state(7, 9).due(-1698901336);
        // 282475249000 - 66 * 2^32 is -992592536.
        x.state(0, 10).due(-992592536);
        x.state(7, 10).due(992592536);
    }

    private static void programFiveOfStar() {
        // Node 0 joined to 1 .. 7: 3 * s - 7 * t for node 0 and 3 * t - s for the others, followed in long.
        Run x = new Run(8).starts(-1000, 1000, 1000, 1000, 1000, 1000, 1000, 1000);
        for (int v = 1; v < 8; v++) {
            x.edge(v, 0, 1);
        }
        x.program(5);
        long s = -1000;
        long t = 1000;
        boolean left = false;
        for (int round = 0; round <= 10; round++) {
            x.state(0, round).due((int) s);
            x.state(1, round).due((int) t);
            x.state(7, round).due((int) t);
            left = left || s != (int) s && t != (int) t;
            long before = s;
            s = 3 * s - 7 * t;
            t = 3 * t - before;
        }
        Due.holds(left, "the states left the range of an int");
    }

    private static void sumAlone() {
        // Round 7 of 1000 * 8^r is 2097152000 for each node: 8 of them are 16777216000, less 4 * 2^32.
        Run up = timesEight(1000);
        up.sum(6).due(2097152000);
        up.sum(7).due(-402653184);
        Run down = timesEight(-1000);
        down.sum(6).due(-2097152000);
        down.sum(7).due(402653184);
        // Program 5 makes (3 - 7) * s of s: after round 10 it is 1048576000, and 8 of them less 2 * 2^32.
        Run five = timesEight(1000);
        five.program(5);
        five.state(0, 10).due(1048576000);
        five.sum(10).due(-201326592);
        five.state(0, 9).due(-262144000);
        five.sum(9).due(-2097152000);
    }

    private static void sumOfWrappedStates() {
        // Four times a + b, which is 1 or -1 however far a and b are apart.
        Run x = twoSides(1000, -999);
        for (int round = 0; round <= 10; round++) {
            x.sum(round).due(round % 2 == 0 ? 4 : -4);
        }
        Run y = timesEight(1000);
        y.sum(8).due(1073741824);
        y.sum(9).due(0);
        y.sum(10).due(0);
    }

    private static void kindsOfWrappedStates() {
        Run same = timesEight(999);
        Run sides = twoSides(1000, -1000);
        for (int round = 8; round <= 10; round++) {
            same.kinds(round).due(1);
            sides.kinds(round).due(2);
        }
    }

    private static void settledAfterWrap() {
        // 512 * 8^8 = 2^33 is 0 as an int, and 512 * 8^7 = 2^30 is not.
        timesEight(512).settled().due(8);
        timesEight(8).settled().due(-1);
    }

    private static void changesAfterWrap() {
        Run x = timesEight(512);
        x.changes(7).due(8);
        x.changes(8).due(8);
        x.changes(9).due(0);
        x.changes(10).due(0);
    }

    private static void reachedAfterWrap() {
        Run x = timesEight(1000);
        x.reached(2, 2097152000).due(7);
        x.reached(2, -402653184).due(8);
        x.reached(2, 1073741824).due(9);
        x.reached(2, 0).due(10);
        Run least = timesEight(16);
        least.reached(2, MIN).due(9);
        least.reached(2, 0).due(10);
        least.reached(2, Integer.MAX_VALUE).due(-2);
    }
}
