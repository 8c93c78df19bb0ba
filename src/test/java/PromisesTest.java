// One method for each promise of the document: ordinary inputs, the named edges, wrong inputs.
// The due answers are worked out by hand; where a test adds them up itself, it shows how.
public final class PromisesTest {
    private static final int MIN = Integer.MIN_VALUE;
    private static final int MAX = Integer.MAX_VALUE;

    public static void main(String[] args) {
        Due.sentence("Promise 1: A new object", PromisesTest::promise1NewObject);
        Due.sentence("Promise 2: nodes", PromisesTest::promise2Nodes);
        Due.sentence("Promise 3: edge", PromisesTest::promise3Edge);
        Due.sentence("Promise 4: start", PromisesTest::promise4Start);
        Due.sentence("Promise 5: program", PromisesTest::promise5Program);
        Due.sentence("Promise 5: program", PromisesTest::promise5ProgramsWithoutNeighbours);
        Due.sentence("Promise 6: method", PromisesTest::promise6Method);
        Due.sentence("Promise 7: schedule", PromisesTest::promise7Schedule);
        Due.sentence("Promise 8: edges", PromisesTest::promise8Edges);
        Due.sentence("Promise 9: degree", PromisesTest::promise9Degree);
        Due.sentence("Promise 10: parts", PromisesTest::promise10Parts);
        Due.sentence("Promise 11: state", PromisesTest::promise11State);
        Due.sentence("Promise 11: state", PromisesTest::promise11StateOfEachProgram);
        Due.sentence("Promise 12: sum", PromisesTest::promise12Sum);
        Due.sentence("Promise 13: kinds", PromisesTest::promise13Kinds);
        Due.sentence("Promise 14: settled", PromisesTest::promise14Settled);
        Due.sentence("Promise 15: changes", PromisesTest::promise15Changes);
        Due.sentence("Promise 16: reached", PromisesTest::promise16Reached);
        Due.sentence("Promise 17: overhead", PromisesTest::promise17Overhead);
        Due.end();
    }

    private static void promise1NewObject() {
        int[][] sizes = {{MIN, 2}, {-1, 2}, {0, 2}, {1, 2}, {2, 2}, {3, 3}, {4, 4}, {5, 5},
            {6, 6}, {7, 7}, {8, 8}, {9, 8}, {100, 8}, {MAX, 8}};
        for (int[] size : sizes) {
            Run x = new Run(size[0]);
            x.nodes().due(size[1]);
            x.degree(size[1] - 1).due(0);
            x.degree(size[1]).due(-1);
            x.edges().due(0);
            x.parts().due(size[1]);
            for (int v = 0; v < size[1]; v++) {
                x.state(v, 0).due(0);
                x.state(v, 10).due(0);
                x.start(v, 1).due(0);
            }
            x.program(0).due(0);
            x.method(0).due(0);
        }
        Run one = new Run(3);
        Run other = new Run(3);
        one.start(0, 5);
        one.edge(0, 1, 1);
        other.state(0, 0).due(0);
        other.edges().due(0);
    }

    private static void promise2Nodes() {
        Run x = new Run(5);
        x.nodes().due(5);
        x.edge(0, 4, 1);
        x.start(4, 7);
        x.program(3);
        x.method(1);
        x.schedule(2);
        x.nodes().due(5);
    }

    private static void promise3Edge() {
        Run x = new Run(4);
        x.edge(0, 1, 1).due(0);
        x.edge(0, 1, 1).due(1);
        x.edge(1, 0, -1).due(1);  // from the other end
        x.edges().due(1);
        x.edge(1, 0, 0).due(1);
        x.edge(0, 1, 0).due(0);
        x.edges().due(0);
        x.edge(3, 2, MIN).due(0);
        x.edge(2, 3, MAX).due(1);
        x.edge(2, 3, 2).due(1);
        x.edge(0, 3, 0).due(0);  // that never was
        x.edges().due(1);
        int[] bad = {-1, 4, 8, 31, 32, 33, MIN, MAX};
        for (int b : bad) {
            x.edge(b, 0, 1).due(-1);
            x.edge(0, b, 1).due(-1);
            x.edge(b, b, 1).due(-1);
            x.edge(b, 2, 0).due(-1);
        }
        for (int v = 0; v < 4; v++) {
            x.edge(v, v, 1).due(-2);
            x.edge(v, v, 0).due(-2);
        }
        x.edges().due(1);
        x.degree(2).due(1);
        x.degree(3).due(1);
    }

    private static void promise4Start() {
        Run x = new Run(3);
        x.start(0, 1000).due(0);
        x.start(0, -1000).due(1000);
        x.start(0, 1001).due(-2);
        x.start(0, -1001).due(-2);
        x.start(0, MAX).due(-2);
        x.start(0, MIN).due(-2);
        x.state(0, 0).due(-1000);
        x.start(0, 7).due(-1000);
        x.start(1, 8).due(0);
        x.start(2, 999).due(0);
        x.start(2, -999).due(999);
        x.start(-1, 5).due(-1);
        x.start(3, 5).due(-1);
        x.start(MAX, 5).due(-1);
        x.start(MIN, 5).due(-1);
        x.start(3, 1001).due(-1);  // both wrong
        x.start(-1, -1001).due(-1);  // both wrong
        x.statesDue(0, 7, 8, -999);
        x.edge(0, 1, 1);
        x.program(2);
        x.start(0, 1).due(7);  // the start before, not a later state
    }

    private static void promise5Program() {
        Run x = new Run(2);
        for (int kind = 1; kind <= 5; kind++) {
            x.program(kind).due(kind - 1);
        }
        int[] bad = {-1, 6, 7, MIN, MAX};
        for (int b : bad) {
            x.program(b).due(-1);
        }
        x.program(0).due(5);
        x.program(0).due(0);
    }

    private static void promise5ProgramsWithoutNeighbours() {
        int[] afterOneRound = {-7, -7, -7, -7, -7, -21};
        int[] afterTwoRounds = {-7, -7, -7, -7, -7, -63};
        for (int kind = 0; kind <= 5; kind++) {
            Run x = new Run(3);
            x.starts(-7, 900, -900);
            x.edge(1, 2, 1);
            x.program(kind);
            x.state(0, 1).due(afterOneRound[kind]);
            x.state(0, 2).due(afterTwoRounds[kind]);
        }
    }

    private static void promise6Method() {
        Run x = Run.path(3);
        x.start(0, 4);
        x.method(1).due(0);
        x.method(1).due(1);
        int[] bad = {-1, 2, 3, MIN, MAX};
        for (int b : bad) {
            x.method(b).due(-1);
        }
        x.method(0).due(1);
        x.method(0).due(0);
        x.program(0).due(0);  // method leaves the program
        x.state(1, 1).due(4);  // method leaves the states
    }

    private static void promise7Schedule() {
        int[] seeds = {0, 1, -1, 77, 123456, MIN, MAX};
        for (int seed : seeds) {
            Run x = Run.path(4);
            x.starts(3, -1, 4, 1);
            x.program(2);
            x.method(1);
            x.schedule(seed);
            x.statesDue(1, 2, 6, 4, 5);
            x.statesDue(2, 8, 12, 15, 9);
            x.sum(2).due(44);
            x.kinds(1).due(4);
            x.settled().due(-1);
            x.changes(1).due(3);
            x.reached(3, 9).due(2);
            x.overhead(2).due(24);
            x.nodes().due(4);
            x.edges().due(3);
            x.degree(1).due(2);
            x.parts().due(1);
            x.edge(0, 1, 1).due(1);
            x.start(0, 3).due(3);
            x.program(2).due(2);
            x.method(1).due(1);
        }
    }

    private static void promise8Edges() {
        for (int n = 2; n <= 8; n++) {
            Run.path(n).edges().due(n - 1);
            Run.full(n).edges().due(n * (n - 1) / 2);
        }
        Run x = Run.full(5);
        x.edge(1, 3, 0);
        x.edge(4, 0, 0);
        x.edges().due(8);
    }

    private static void promise9Degree() {
        Run star = new Run(8);
        for (int v = 1; v < 8; v++) {
            star.degree(0).due(v - 1);
            star.edge(v, 0, 1);
        }
        star.degree(0).due(7);
        star.degree(7).due(1);
        star.edge(0, 3, 0);
        star.degree(0).due(6);
        star.degree(3).due(0);
        star.degree(-1).due(-1);
        star.degree(8).due(-1);
        star.degree(MIN).due(-1);
        star.degree(MAX).due(-1);
        Run small = Run.path(3);
        small.degree(2).due(1);
        small.degree(3).due(-1);
    }

    private static void promise10Parts() {
        for (int n = 2; n <= 8; n++) {
            Run.path(n).parts().due(1);
            Run.full(n).parts().due(1);
            new Run(n).parts().due(n);
        }
        Run x = new Run(8);
        // One row 7 - 0 - 6 - 1 - 5 - 2 - 4 - 3: its nodes do not rise along it.
        int[] row = {7, 0, 6, 1, 5, 2, 4, 3};
        for (int i = 0; i + 1 < row.length; i++) {
            x.edge(row[i], row[i + 1], 1);
            x.parts().due(7 - i);
        }
        x.edge(7, 3, 1);
        x.parts().due(1);  // a ring
        x.edge(6, 1, 0);
        x.parts().due(1);  // a ring cut once
        x.edge(2, 4, 0);
        x.parts().due(2);  // cut twice
        x.edge(5, 2, 0);
        x.parts().due(3);  // with a node alone
    }

    private static void promise11State() {
        Run x = Run.path(3);
        x.starts(5, 6, 7);
        x.state(0, 0).due(5);
        x.state(2, 10).due(7);
        x.state(0, 10).due(7);
        int[] badNodes = {-1, 3, 7, 8, MIN, MAX};
        for (int b : badNodes) {
            x.state(b, 0).due(0);
            x.state(b, 1).due(0);
            x.state(b, 11).due(0);
        }
        int[] badRounds = {-1, 11, 12, MIN, MAX};
        for (int b : badRounds) {
            x.state(0, b).due(0);
            x.state(2, b).due(0);
        }
        x.edge(1, 2, 0);
        x.state(0, 10).due(6);
        x.start(0, 9);
        x.state(1, 1).due(9);
        x.program(1);
        x.state(0, 1).due(6);
    }

    private static void promise11StateOfEachProgram() {
        // 0 - 1 - 2 - 3, and node 4 alone.
        Run x = new Run(5);
        x.edge(0, 1, 1);
        x.edge(1, 2, 1);
        x.edge(2, 3, 1);
        x.starts(12, -3, 5, 20, 1000);
        x.statesDue(1, 12, 12, 20, 20, 1000);
        x.statesDue(2, 12, 20, 20, 20, 1000);
        x.statesDue(3, 20, 20, 20, 20, 1000);
        x.program(1);
        x.statesDue(1, -3, -3, -3, 5, 1000);
        x.statesDue(2, -3, -3, -3, -3, 1000);
        x.program(2);
        x.statesDue(1, 9, 14, 22, 25, 1000);
        x.statesDue(2, 23, 45, 61, 47, 1000);
        x.program(3);
        // -3 is ..11101, 12 is 01100, 5 is 00101, 20 is 10100.
        x.statesDue(1, 12 ^ -3, 12 ^ -3 ^ 5, -3 ^ 5 ^ 20, 5 ^ 20, 1000);
        x.statesDue(1, -15, -12, -20, 17, 1000);
        x.statesDue(2, -15 ^ -12, -15 ^ -12 ^ -20, -12 ^ -20 ^ 17, -20 ^ 17, 1000);
        x.program(4);
        x.statesDue(1, -2, -3, -2, 6, 1000);
        x.statesDue(2, -2, -3, -2, -1, 1000);
        x.statesDue(10, -2, -3, -2, -1, 1000);
        x.program(5);
        x.statesDue(1, 39, -26, -2, 55, 3000);
        x.statesDue(2, 143, -115, -35, 167, 9000);

        Run low = Run.path(3);
        low.starts(-1000, 1000, 1000);
        low.program(4);
        low.statesDue(1, -1000, -999, 1000);
        low.statesDue(2, -1000, -999, -998);

        Run near = Run.path(2);
        near.starts(4, 5);
        near.program(4);
        near.statesDue(1, 4, 5);
        near.start(1, 4);
        near.statesDue(1, 4, 4);
        near.start(1, 6);
        near.statesDue(1, 4, 5);
    }

    private static void promise12Sum() {
        Run x = Run.path(3);
        x.starts(1000, -1, 30);
        x.sum(0).due(1029);
        x.sum(1).due(2030);
        x.sum(2).due(3000);
        x.sum(10).due(3000);
        int[] bad = {-1, 11, MIN, MAX};
        for (int b : bad) {
            x.sum(b).due(0);
        }
        Run all = new Run(8);
        for (int v = 0; v < 8; v++) {
            all.start(v, -1000);
        }
        all.sum(0).due(-8000);
        all.program(5);
        all.sum(10).due(-472392000);
    }

    private static void promise13Kinds() {
        Run x = new Run(8);
        x.kinds(0).due(1);
        for (int v = 1; v < 8; v++) {
            x.start(v, v * 100);
            x.kinds(0).due(v + 1);
        }
        x.starts(5, 6, 5, 6, 5, 7, 7, 5);
        x.kinds(0).due(3);
        Run row = Run.path(4);
        row.starts(1, 2, 3, 4);
        row.kinds(1).due(3);
        row.kinds(2).due(2);
        row.kinds(3).due(1);
        row.kinds(10).due(1);
        row.starts(-1, 1, -1, 1);
        row.kinds(0).due(2);  // of a number and its negative
        int[] bad = {-1, 11, MIN, MAX};
        for (int b : bad) {
            row.kinds(b).due(-1);
        }
    }

    private static void promise14Settled() {
        new Run(8).settled().due(0);
        for (int n = 2; n <= 8; n++) {
            Run x = Run.path(n);
            x.start(0, 1);
            x.settled().due(n - 1);
        }
        Run two = Run.path(2);
        two.starts(1, 1);
        two.program(2);
        two.settled().due(-1);  // of what always doubles
        two.program(3);
        two.settled().due(1);
        // 3 * 1 - 1 is 2: it doubles, too.
        two.program(5);
        two.settled().due(-1);
        // s + s' is 0 for 1 and -1, and stays so.
        two.starts(1, -1);
        two.program(2);
        two.settled().due(1);

        // With every edge of 8 nodes program 2 multiplies by 8: 512 = 2^9 needs 8 rounds to be 2^33, 0 as an int.
        Run late = Run.full(8);
        for (int v = 0; v < 8; v++) {
            late.start(v, 512);
        }
        late.program(2);
        late.settled().due(8);
        for (int v = 0; v < 8; v++) {
            late.start(v, 32);
        }
        // 2^5 becomes 2^32 after 9 rounds: the last round that may be answered.
        late.settled().due(9);
        for (int v = 0; v < 8; v++) {
            late.start(v, 16);
        }
        // 2^4 becomes 2^31 after 9 rounds and 0 only after 10.
        late.settled().due(-1);
        late.changes(10).due(8);
    }

    private static void promise15Changes() {
        Run x = Run.path(4);
        x.starts(9, 1, 1, 5);
        x.changes(1).due(2);
        x.changes(2).due(1);
        x.changes(3).due(1);
        x.changes(4).due(0);
        x.changes(10).due(0);
        x.program(2);
        x.changes(1).due(4);
        x.changes(10).due(4);
        int[] bad = {-1, 0, 11, 12, MIN, MAX};
        for (int b : bad) {
            x.changes(b).due(-1);
        }
    }

    private static void promise16Reached() {
        Run x = Run.path(8);
        x.start(0, 3);
        for (int v = 0; v < 8; v++) {
            x.reached(v, 3).due(v);
        }
        x.reached(7, 0).due(0);
        x.reached(0, 0).due(-2);
        x.reached(0, MIN).due(-2);
        x.reached(0, MAX).due(-2);
        int[] bad = {-1, 8, MIN, MAX};
        for (int b : bad) {
            x.reached(b, 0).due(-1);
            x.reached(b, 999).due(-1);
        }
        Run two = Run.path(2);
        two.starts(1, 1);
        two.program(2);
        two.reached(1, 1024).due(10);
        two.reached(1, 2048).due(-2);
        // Program 3 on a row of three from 1, 0, 0: the middle is 0 1 0 1 ..
        Run three = Run.path(3);
        three.start(0, 1);
        three.program(3);
        three.reached(1, 0).due(0);  // the first of several rounds
        three.reached(1, 1).due(1);  // the first of several rounds
        three.reached(2, 1).due(2);
    }

    private static void promise17Overhead() {
        // 7 edges, 8 nodes, 3 parts: {0 1 2 3}, {4 5 6}, {7}.
        Run x = new Run(8);
        int[][] pairs = {{0, 1}, {1, 2}, {2, 3}, {3, 0}, {4, 5}, {5, 6}, {6, 4}};
        for (int[] pair : pairs) {
            x.edge(pair[0], pair[1], 1);
        }
        for (int round = 0; round <= 10; round++) {
            x.overhead(round).due(28 * round);
        }
        x.method(1);
        for (int round = 0; round <= 10; round++) {
            x.overhead(round).due(24 * round);
        }
        int[] bad = {-1, 11, MIN, MAX};
        for (int method = 0; method <= 1; method++) {
            x.method(method);
            for (int b : bad) {
                x.overhead(b).due(-1);
            }
        }
        x.edge(7, 0, 1);
        x.overhead(1).due(28);
        x.method(0);
        x.overhead(1).due(32);
        Run none = new Run(5);
        none.overhead(10).due(0);
        none.method(1);
        none.overhead(10).due(0);
        Run full = Run.full(8);
        full.overhead(10).due(1120);
        full.method(1);
        full.overhead(10).due(700);
        full.program(4);
        full.start(3, 77);
        full.overhead(10).due(700);  // neither program nor start matters
    }
}
