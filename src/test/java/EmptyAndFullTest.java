// No edge at all and an edge between every two nodes, with the fewest and the most nodes: every question.
// Then the edges that are set or taken away without a change, and the last call that an object is used for.
//
// The starts are 5, -3 for two nodes and 5, -3, 5, 0, 1000, -1000, 7, 7 for eight. What is due of them:
//   sum: 2 and 21; greatest: 5 and 1000; least: -3 and -1000; joined by exclusive or: -8 and 13;
//   different ones: 2 and 6. Neither the sum nor the exclusive or is one of the starts.
public final class EmptyAndFullTest {
    private static final int MIN = Integer.MIN_VALUE;
    private static final int MAX = Integer.MAX_VALUE;
    private static final int[] TWO = {5, -3};
    private static final int[] EIGHT = {5, -3, 5, 0, 1000, -1000, 7, 7};

    public static void main(String[] args) {
        Due.sentence("no edge: edges", EmptyAndFullTest::edgesOfNone);
        Due.sentence("no edge: degree", EmptyAndFullTest::degreeOfNone);
        Due.sentence("no edge: parts", EmptyAndFullTest::partsOfNone);
        Due.sentence("no edge: state", EmptyAndFullTest::stateOfNone);
        Due.sentence("no edge: program 4 is s if there is no neighbour", EmptyAndFullTest::programFourAlone);
        Due.sentence("no edge: sum", EmptyAndFullTest::sumOfNone);
        Due.sentence("no edge: kinds", EmptyAndFullTest::kindsOfNone);
        Due.sentence("no edge: settled", EmptyAndFullTest::settledOfNone);
        Due.sentence("no edge: changes", EmptyAndFullTest::changesOfNone);
        Due.sentence("no edge: reached", EmptyAndFullTest::reachedOfNone);
        Due.sentence("no edge: overhead with method 0", () -> overheadOfNone(0));
        Due.sentence("no edge: overhead with method 1", () -> overheadOfNone(1));
        Due.sentence("every edge: edges", EmptyAndFullTest::edgesOfAll);
        Due.sentence("every edge: degree", EmptyAndFullTest::degreeOfAll);
        Due.sentence("every edge: parts", EmptyAndFullTest::partsOfAll);
        Due.sentence("every edge: state", EmptyAndFullTest::stateOfAll);
        Due.sentence("every edge: sum", EmptyAndFullTest::sumOfAll);
        Due.sentence("every edge: kinds", EmptyAndFullTest::kindsOfAll);
        Due.sentence("every edge: settled", EmptyAndFullTest::settledOfAll);
        Due.sentence("every edge: changes", EmptyAndFullTest::changesOfAll);
        Due.sentence("every edge: reached", EmptyAndFullTest::reachedOfAll);
        Due.sentence("every edge: overhead with method 0", EmptyAndFullTest::overheadOfAllWithMethod0);
        Due.sentence("every edge: overhead with method 1", EmptyAndFullTest::overheadOfAllWithMethod1);
        Due.sentence("edge: none at first", EmptyAndFullTest::noneAtFirst);
        Due.sentence("edge: set where there was one", EmptyAndFullTest::edgeThatWasThere);
        Due.sentence("edge: taken away where there was none", EmptyAndFullTest::edgeThatWasNotThere);
        Due.sentence("edge: flag not 0", EmptyAndFullTest::otherFlags);
        Due.sentence("edge: from full to empty and back", EmptyAndFullTest::fullToEmptyAndBack);
        Due.sentence("used for at most 512 calls", EmptyAndFullTest::lastCall);
        Due.end();
    }

    private static int[] startsOf(int n) {
        return n == 2 ? TWO : EIGHT;
    }

    private static Run none(int n, int program) {
        Run x = new Run(n).starts(startsOf(n));
        x.program(program);
        return x;
    }

    private static Run all(int n, int program) {
        Run x = Run.full(n).starts(startsOf(n));
        x.program(program);
        return x;
    }

    /** Without a neighbour program 5 makes 3 * s of s, and every other program leaves it. */
    private static int aloneAfter(int program, int round, int s) {
        return program == 5 ? power(3, round) * s : s;
    }

    private static int power(int base, int exponent) {
        int power = 1;
        for (int i = 0; i < exponent; i++) {
            power *= base;
        }
        return power;
    }

    private static void edgesOfNone() {
        new Run(2).edges().due(0);
        new Run(8).edges().due(0);
    }

    private static void degreeOfNone() {
        for (int n : new int[] {2, 8}) {
            Run x = new Run(n);
            for (int v = 0; v < n; v++) {
                x.degree(v).due(0);
            }
        }
    }

    private static void partsOfNone() {
        new Run(2).parts().due(2);
        new Run(8).parts().due(8);
    }

    private static void stateOfNone() {
        for (int n : new int[] {2, 8}) {
            for (int program = 0; program <= 5; program++) {
                Run x = none(n, program);
                for (int round = 0; round <= 10; round++) {
                    for (int v = 0; v < n; v++) {
                        x.state(v, round).due(aloneAfter(program, round, startsOf(n)[v]));
                    }
                }
            }
        }
        Run last = none(8, 5);
        last.state(4, 10).due(59049000);
    }

    private static void programFourAlone() {
        // A node alone beside two that are joined: it may take neither their states nor 1 plus anything.
        for (int s : new int[] {-1000, -1, 0, 1, 1000}) {
            Run x = new Run(3).starts(s, 900, -900);
            x.edge(1, 2, 1);
            x.program(4);
            for (int round = 0; round <= 10; round++) {
                x.state(0, round).due(s);
            }
            x.state(1, 1).due(-899);
            // A neighbour that was taken away is none.
            x.edge(0, 2, 1);
            x.edge(2, 0, 0);
            x.state(0, 10).due(s);
        }
        for (int n : new int[] {2, 8}) {
            Run x = none(n, 4);
            x.statesDue(1, startsOf(n));
            x.statesDue(10, startsOf(n));
        }
    }

    private static void sumOfNone() {
        for (int program = 0; program <= 5; program++) {
            Run two = none(2, program);
            Run eight = none(8, program);
            for (int round = 0; round <= 10; round++) {
                two.sum(round).due(aloneAfter(program, round, 2));
                eight.sum(round).due(aloneAfter(program, round, 21));
            }
        }
    }

    private static void kindsOfNone() {
        for (int program = 0; program <= 5; program++) {
            Run two = none(2, program);
            Run eight = none(8, program);
            for (int round = 0; round <= 10; round++) {
                two.kinds(round).due(2);
                eight.kinds(round).due(6);
            }
        }
        new Run(2).kinds(10).due(1);
        new Run(8).kinds(10).due(1);
    }

    private static void settledOfNone() {
        for (int n : new int[] {2, 8}) {
            for (int program = 0; program <= 4; program++) {
                none(n, program).settled().due(0);
            }
            none(n, 5).settled().due(-1);
            Run zeros = new Run(n);
            zeros.program(5);
            zeros.settled().due(0);
        }
    }

    private static void changesOfNone() {
        for (int program = 0; program <= 5; program++) {
            Run two = none(2, program);
            Run eight = none(8, program);
            for (int round = 1; round <= 10; round++) {
                two.changes(round).due(program == 5 ? 2 : 0);
                // 3 * 0 is 0: node 3 does not change.
                eight.changes(round).due(program == 5 ? 7 : 0);
            }
        }
    }

    private static void reachedOfNone() {
        for (int n : new int[] {2, 8}) {
            for (int program = 0; program <= 5; program++) {
                Run x = none(n, program);
                for (int v = 0; v < n; v++) {
                    int s = startsOf(n)[v];
                    x.reached(v, s).due(0);
                    x.reached(v, 59049 * s).due(s == 0 ? 0 : program == 5 ? 10 : -2);
                    x.reached(v, s + 1).due(-2);
                }
            }
        }
    }

    private static void overheadOfNone(int method) {
        for (int n : new int[] {2, 8}) {
            Run x = none(n, 0);
            x.method(method);
            for (int round = 0; round <= 10; round++) {
                x.overhead(round).due(0);
            }
        }
    }

    private static void edgesOfAll() {
        Run.full(2).edges().due(1);
        Run.full(8).edges().due(28);
    }

    private static void degreeOfAll() {
        for (int n : new int[] {2, 8}) {
            Run x = Run.full(n);
            for (int v = 0; v < n; v++) {
                x.degree(v).due(n - 1);
            }
        }
    }

    private static void partsOfAll() {
        Run.full(2).parts().due(1);
        Run.full(8).parts().due(1);
    }

    private static void stateOfAll() {
        all(2, 0).statesDue(1, 5, 5);
        all(2, 0).statesDue(10, 5, 5);
        all(8, 0).statesDue(1, 1000, 1000, 1000, 1000, 1000, 1000, 1000, 1000);
        all(8, 0).statesDue(10, 1000, 1000, 1000, 1000, 1000, 1000, 1000, 1000);
        all(2, 1).statesDue(1, -3, -3);
        all(2, 1).statesDue(10, -3, -3);
        all(8, 1).statesDue(1, -1000, -1000, -1000, -1000, -1000, -1000, -1000, -1000);
        all(8, 1).statesDue(10, -1000, -1000, -1000, -1000, -1000, -1000, -1000, -1000);
        all(2, 2).statesDue(1, 2, 2);
        all(2, 2).statesDue(10, 1024, 1024);
        all(8, 2).statesDue(1, 21, 21, 21, 21, 21, 21, 21, 21);
        all(8, 2).statesDue(2, 168, 168, 168, 168, 168, 168, 168, 168);
        // An even number of equal states joined by exclusive or is 0.
        all(2, 3).statesDue(1, -8, -8);
        all(2, 3).statesDue(2, 0, 0);
        all(8, 3).statesDue(1, 13, 13, 13, 13, 13, 13, 13, 13);
        all(8, 3).statesDue(2, 0, 0, 0, 0, 0, 0, 0, 0);
        all(2, 4).statesDue(1, -2, -3);
        all(2, 4).statesDue(10, -2, -3);
        all(8, 4).statesDue(1, -999, -999, -999, -999, -999, -1000, -999, -999);
        all(8, 4).statesDue(10, -999, -999, -999, -999, -999, -1000, -999, -999);
        // Two nodes: 3 * 5 + 3 and 3 * -3 - 5, then 3 * 18 + 14 and 3 * -14 - 18.
        all(2, 5).statesDue(1, 18, -14);
        all(2, 5).statesDue(2, 68, -60);
        // Eight nodes: 4 * s - 21. The sum is then -84, so the next is 4 * s + 84, which is 16 times the start.
        all(8, 5).statesDue(1, -1, -33, -1, -21, 3979, -4021, 7, 7);
        all(8, 5).statesDue(2, 80, -48, 80, 0, 16000, -16000, 112, 112);
        all(8, 5).statesDue(10, 5 << 20, -3 << 20, 5 << 20, 0, 1000 << 20, -1000 << 20, 7 << 20, 7 << 20);
    }

    private static void sumOfAll() {
        int[] twoAfterOne = {10, -6, 4, -16, -5, 4};
        int[] twoAfterTen = {10, -6, 2048, 0, -5, 2048};
        int[] eightAfterOne = {8000, -8000, 168, 104, -7993, -84};
        // 21 * 8^10 = 21 * 2^30 wraps to 2^30; 21 * (-4)^10 is 21 * 2^20.
        int[] eightAfterTen = {8000, -8000, 1 << 30, 0, -7993, 21 << 20};
        for (int program = 0; program <= 5; program++) {
            Run two = all(2, program);
            two.sum(0).due(2);
            two.sum(1).due(twoAfterOne[program]);
            two.sum(10).due(twoAfterTen[program]);
            Run eight = all(8, program);
            eight.sum(0).due(21);
            eight.sum(1).due(eightAfterOne[program]);
            eight.sum(10).due(eightAfterTen[program]);
        }
    }

    private static void kindsOfAll() {
        int[] two = {1, 1, 1, 1, 2, 2};
        int[] eight = {1, 1, 1, 1, 2, 6};
        for (int program = 0; program <= 5; program++) {
            Run ofTwo = all(2, program);
            Run ofEight = all(8, program);
            ofTwo.kinds(0).due(2);
            ofEight.kinds(0).due(6);
            for (int round = 1; round <= 10; round++) {
                ofTwo.kinds(round).due(two[program]);
                ofEight.kinds(round).due(eight[program]);
            }
        }
    }

    private static void settledOfAll() {
        int[] due = {1, 1, -1, 2, 1, -1};
        for (int program = 0; program <= 5; program++) {
            all(2, program).settled().due(due[program]);
            all(8, program).settled().due(due[program]);
        }
    }

    private static void changesOfAll() {
        int[][] two = {{1, 0, 0}, {1, 0, 0}, {2, 2, 2}, {2, 2, 0}, {1, 0, 0}, {2, 2, 2}};
        // Program 5: 4 * 7 - 21 is 7, and 4 * 112 - 336 is 112, so two nodes stay in rounds 1 and 3.
        int[][] eight = {{7, 0, 0}, {7, 0, 0}, {8, 8, 8}, {8, 8, 0}, {7, 0, 0}, {6, 8, 6}};
        for (int program = 0; program <= 5; program++) {
            Run ofTwo = all(2, program);
            Run ofEight = all(8, program);
            for (int round = 1; round <= 3; round++) {
                ofTwo.changes(round).due(two[program][round - 1]);
                ofEight.changes(round).due(eight[program][round - 1]);
            }
            ofTwo.changes(10).due(two[program][2]);
        }
    }

    private static void reachedOfAll() {
        int[] valueOfTwo = {5, -3, 1024, 0, -2, 68};
        int[] roundOfTwo = {0, 1, 10, 2, 1, 2};
        int[] valueOfEight = {1000, -1000, 168, 0, -999, 80};
        int[] roundOfEight = {1, 1, 2, 2, 1, 2};
        for (int program = 0; program <= 5; program++) {
            Run two = all(2, program);
            two.reached(0, valueOfTwo[program]).due(roundOfTwo[program]);
            two.reached(0, 5).due(0);
            two.reached(0, 4).due(program == 2 ? 2 : -2);
            Run eight = all(8, program);
            eight.reached(0, valueOfEight[program]).due(roundOfEight[program]);
            eight.reached(7, 7).due(0);
            eight.reached(7, 8).due(-2);
        }
    }

    private static void overheadOfAllWithMethod0() {
        Run two = Run.full(2);
        Run eight = Run.full(8);
        for (int round = 0; round <= 10; round++) {
            two.overhead(round).due(4 * round);
            eight.overhead(round).due(112 * round);
        }
    }

    private static void overheadOfAllWithMethod1() {
        Run two = Run.full(2);
        Run eight = Run.full(8);
        two.method(1);
        eight.method(1);
        for (int round = 0; round <= 10; round++) {
            two.overhead(round).due(4 * round);
            // 2 * 28 + 2 * (8 - 1)
            eight.overhead(round).due(70 * round);
        }
    }

    private static void noneAtFirst() {
        for (int n : new int[] {2, 8}) {
            for (int u = 0; u < n; u++) {
                for (int v = 0; v < n; v++) {
                    if (u != v) {
                        new Run(n).edge(u, v, 1).due(0);
                        new Run(n).edge(u, v, 0).due(0);
                    }
                }
            }
        }
    }

    private static void edgeThatWasThere() {
        for (int n : new int[] {2, 8}) {
            Run x = all(n, 2);
            for (int u = 0; u < n; u++) {
                for (int v = 0; v < n; v++) {
                    if (u != v) {
                        x.edge(u, v, 1).due(1);
                    }
                }
            }
            x.edges().due(n * (n - 1) / 2);
            x.degree(0).due(n - 1);
            x.degree(n - 1).due(n - 1);
            x.state(0, 1).due(n == 2 ? 2 : 21);
            // It is one edge, so it is gone when it has been taken away once.
            x.edge(1, 0, 0).due(1);
            x.edge(0, 1, 0).due(0);
            x.edges().due(n * (n - 1) / 2 - 1);
        }
    }

    private static void edgeThatWasNotThere() {
        for (int n : new int[] {2, 8}) {
            Run x = none(n, 2);
            for (int u = 0; u < n; u++) {
                for (int v = 0; v < n; v++) {
                    if (u != v) {
                        x.edge(u, v, 0).due(0);
                    }
                }
            }
            x.edges().due(0);
            x.degree(0).due(0);
            x.degree(n - 1).due(0);
            x.parts().due(n);
            x.statesDue(1, startsOf(n));
            x.edge(0, 1, 1).due(0);
            x.edge(1, 0, 1).due(1);
            x.edges().due(1);
        }
    }

    private static void otherFlags() {
        for (int flag : new int[] {-1, 2, 3, 4, -2, 256, 65536, 1 << 30, MIN, MIN + 1, MAX - 1, MAX}) {
            Run x = new Run(3);
            x.edge(0, 2, flag).due(0);
            x.edges().due(1);
            x.edge(2, 0, flag).due(1);
            x.edges().due(1);
            x.degree(0).due(1);
            x.degree(1).due(0);
            x.degree(2).due(1);
            x.edge(0, 2, 0).due(1);
            x.edges().due(0);
        }
    }

    private static void fullToEmptyAndBack() {
        for (int n : new int[] {2, 8}) {
            Run x = all(n, 2);
            setAllEdges(x, n, 0, 1);
            x.edges().due(0);
            x.parts().due(n);
            x.statesDue(1, startsOf(n));
            setAllEdges(x, n, 1, 0);
            x.edges().due(n * (n - 1) / 2);
            x.parts().due(1);
            x.state(n - 1, 1).due(n == 2 ? 2 : 21);
        }
    }

    private static void setAllEdges(Run x, int n, int flag, int answerDue) {
        for (int u = 0; u < n; u++) {
            for (int v = u + 1; v < n; v++) {
                x.edge(v, u, flag).due(answerDue);
            }
        }
    }

    /** Only what comes after the 512th call is free. */
    private static void lastCall() {
        Run x = Run.full(8);
        while (x.calls() < 510) {
            int made = x.calls();
            x.start(made % 8, made % 1000);
        }
        x.start(0, 1000);
        x.state(7, 1).due(1000);
        Due.holds(x.calls() == 512, "that was the 512th call");
    }
}
