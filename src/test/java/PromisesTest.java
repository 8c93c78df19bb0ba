// One method for each promise of the document: ordinary inputs, the named edges, wrong inputs.
// The due answers are worked out by hand; where a test adds them up itself, it shows how.
public final class PromisesTest {
    private static final int MIN = Integer.MIN_VALUE;
    private static final int MAX = Integer.MAX_VALUE;
    private static int wrong = 0;

    public static void main(String[] args) {
        promise1NewObject();
        promise2Nodes();
        promise3Edge();
        promise4Start();
        promise5Program();
        promise5ProgramsWithoutNeighbours();
        promise6Method();
        promise7Schedule();
        promise8Edges();
        promise9Degree();
        promise10Parts();
        promise11State();
        promise11StateOfEachProgram();
        promise11StateWraps();
        promise12Sum();
        promise13Kinds();
        promise14Settled();
        promise15Changes();
        promise16Reached();
        promise17Overhead();
        System.out.println(wrong == 0 ? "all answers are as due" : wrong + " answers are not as due");
        if (wrong != 0) {
            System.exit(1);
        }
    }

    private static void due(String call, int got, int want) {
        if (got != want) {
            wrong++;
            System.out.println(call + " answered " + got + ", due is " + want);
        }
    }

    /** Nodes 0 - 1 - .. - n-1 in a row. */
    private static SafeSync path(int n) {
        SafeSync x = new SafeSync(n);
        for (int v = 0; v + 1 < n; v++) {
            x.edge(v, v + 1, 1);
        }
        return x;
    }

    private static SafeSync complete(int n) {
        SafeSync x = new SafeSync(n);
        for (int u = 0; u < n; u++) {
            for (int v = u + 1; v < n; v++) {
                x.edge(u, v, 1);
            }
        }
        return x;
    }

    private static void setStarts(SafeSync x, int... values) {
        for (int v = 0; v < values.length; v++) {
            x.start(v, values[v]);
        }
    }

    private static void dueStates(String what, SafeSync x, int round, int... want) {
        for (int v = 0; v < want.length; v++) {
            due(what + ": state(" + v + ", " + round + ")", x.state(v, round), want[v]);
        }
    }

    private static void promise1NewObject() {
        int[][] sizes = {{MIN, 2}, {-1, 2}, {0, 2}, {1, 2}, {2, 2}, {3, 3}, {4, 4}, {5, 5},
            {6, 6}, {7, 7}, {8, 8}, {9, 8}, {100, 8}, {MAX, 8}};
        for (int[] size : sizes) {
            SafeSync x = new SafeSync(size[0]);
            String name = "new SafeSync(" + size[0] + ")";
            due(name + ".nodes()", x.nodes(), size[1]);
            due(name + ".degree(last)", x.degree(size[1] - 1), 0);
            due(name + ".degree(last + 1)", x.degree(size[1]), -1);
            due(name + ".edges()", x.edges(), 0);
            due(name + ".parts()", x.parts(), size[1]);
            for (int v = 0; v < size[1]; v++) {
                due(name + ".state(" + v + ", 0)", x.state(v, 0), 0);
                due(name + ".state(" + v + ", 10)", x.state(v, 10), 0);
                due(name + ".start(" + v + ", 1)", x.start(v, 1), 0);
            }
            due(name + ".program(0)", x.program(0), 0);
            due(name + ".method(0)", x.method(0), 0);
        }
        SafeSync one = new SafeSync(3);
        SafeSync other = new SafeSync(3);
        one.start(0, 5);
        one.edge(0, 1, 1);
        due("an object apart: state(0, 0)", other.state(0, 0), 0);
        due("an object apart: edges()", other.edges(), 0);
    }

    private static void promise2Nodes() {
        SafeSync x = new SafeSync(5);
        due("nodes()", x.nodes(), 5);
        x.edge(0, 4, 1);
        x.start(4, 7);
        x.program(3);
        x.method(1);
        x.schedule(2);
        due("nodes() after changes", x.nodes(), 5);
    }

    private static void promise3Edge() {
        SafeSync x = new SafeSync(4);
        due("edge(0, 1, 1)", x.edge(0, 1, 1), 0);
        due("edge(0, 1, 1) again", x.edge(0, 1, 1), 1);
        due("edge(1, 0, -1) from the other end", x.edge(1, 0, -1), 1);
        due("edges() after one edge set thrice", x.edges(), 1);
        due("edge(1, 0, 0)", x.edge(1, 0, 0), 1);
        due("edge(0, 1, 0)", x.edge(0, 1, 0), 0);
        due("edges() after taking it away", x.edges(), 0);
        due("edge(3, 2, MIN)", x.edge(3, 2, MIN), 0);
        due("edge(2, 3, MAX)", x.edge(2, 3, MAX), 1);
        due("edge(2, 3, 2)", x.edge(2, 3, 2), 1);
        due("edge(0, 3, 0) that never was", x.edge(0, 3, 0), 0);
        due("edges() with one left", x.edges(), 1);
        int[] bad = {-1, 4, 8, 31, 32, 33, MIN, MAX};
        for (int b : bad) {
            due("edge(" + b + ", 0, 1)", x.edge(b, 0, 1), -1);
            due("edge(0, " + b + ", 1)", x.edge(0, b, 1), -1);
            due("edge(" + b + ", same, 1)", x.edge(b, b, 1), -1);
            due("edge(" + b + ", 2, 0)", x.edge(b, 2, 0), -1);
        }
        for (int v = 0; v < 4; v++) {
            due("edge(" + v + ", same, 1)", x.edge(v, v, 1), -2);
            due("edge(" + v + ", same, 0)", x.edge(v, v, 0), -2);
        }
        due("edges() after refused calls", x.edges(), 1);
        due("degree(2) after refused calls", x.degree(2), 1);
        due("degree(3) after refused calls", x.degree(3), 1);
    }

    private static void promise4Start() {
        SafeSync x = new SafeSync(3);
        due("start(0, 1000)", x.start(0, 1000), 0);
        due("start(0, -1000)", x.start(0, -1000), 1000);
        due("start(0, 1001)", x.start(0, 1001), -2);
        due("start(0, -1001)", x.start(0, -1001), -2);
        due("start(0, MAX)", x.start(0, MAX), -2);
        due("start(0, MIN)", x.start(0, MIN), -2);
        due("state(0, 0) after refused starts", x.state(0, 0), -1000);
        due("start(0, 7)", x.start(0, 7), -1000);
        due("start(1, 8)", x.start(1, 8), 0);
        due("start(2, 999)", x.start(2, 999), 0);
        due("start(2, -999)", x.start(2, -999), 999);
        due("start(-1, 5)", x.start(-1, 5), -1);
        due("start(3, 5)", x.start(3, 5), -1);
        due("start(MAX, 5)", x.start(MAX, 5), -1);
        due("start(MIN, 5)", x.start(MIN, 5), -1);
        due("start(3, 1001), both wrong", x.start(3, 1001), -1);
        due("start(-1, -1001), both wrong", x.start(-1, -1001), -1);
        dueStates("starts", x, 0, 7, 8, -999);
        x.edge(0, 1, 1);
        x.program(2);
        due("start(0, 1): the start before, not a later state", x.start(0, 1), 7);
    }

    private static void promise5Program() {
        SafeSync x = new SafeSync(2);
        for (int kind = 1; kind <= 5; kind++) {
            due("program(" + kind + ")", x.program(kind), kind - 1);
        }
        int[] bad = {-1, 6, 7, MIN, MAX};
        for (int b : bad) {
            due("program(" + b + ")", x.program(b), -1);
        }
        due("program(0) after refused ones", x.program(0), 5);
        due("program(0) again", x.program(0), 0);
    }

    private static void promise5ProgramsWithoutNeighbours() {
        int[] afterOneRound = {-7, -7, -7, -7, -7, -21};
        int[] afterTwoRounds = {-7, -7, -7, -7, -7, -63};
        for (int kind = 0; kind <= 5; kind++) {
            SafeSync x = new SafeSync(3);
            setStarts(x, -7, 900, -900);
            x.edge(1, 2, 1);
            x.program(kind);
            due("program " + kind + " alone: state(0, 1)", x.state(0, 1), afterOneRound[kind]);
            due("program " + kind + " alone: state(0, 2)", x.state(0, 2), afterTwoRounds[kind]);
        }
    }

    private static void promise6Method() {
        SafeSync x = path(3);
        x.start(0, 4);
        due("method(1)", x.method(1), 0);
        due("method(1) again", x.method(1), 1);
        int[] bad = {-1, 2, 3, MIN, MAX};
        for (int b : bad) {
            due("method(" + b + ")", x.method(b), -1);
        }
        due("method(0) after refused ones", x.method(0), 1);
        due("method(0) again", x.method(0), 0);
        due("method leaves the program", x.program(0), 0);
        due("method leaves the states", x.state(1, 1), 4);
    }

    private static void promise7Schedule() {
        int[] seeds = {0, 1, -1, 77, 123456, MIN, MAX};
        for (int seed : seeds) {
            SafeSync x = path(4);
            setStarts(x, 3, -1, 4, 1);
            x.program(2);
            x.method(1);
            x.schedule(seed);
            String name = "schedule(" + seed + ")";
            dueStates(name, x, 1, 2, 6, 4, 5);
            dueStates(name, x, 2, 8, 12, 15, 9);
            due(name + ": sum(2)", x.sum(2), 44);
            due(name + ": kinds(1)", x.kinds(1), 4);
            due(name + ": settled()", x.settled(), -1);
            due(name + ": changes(1)", x.changes(1), 3);
            due(name + ": reached(3, 9)", x.reached(3, 9), 2);
            due(name + ": overhead(2)", x.overhead(2), 24);
            due(name + ": nodes()", x.nodes(), 4);
            due(name + ": edges()", x.edges(), 3);
            due(name + ": degree(1)", x.degree(1), 2);
            due(name + ": parts()", x.parts(), 1);
            due(name + ": edge(0, 1, 1)", x.edge(0, 1, 1), 1);
            due(name + ": start(0, 3)", x.start(0, 3), 3);
            due(name + ": program(2)", x.program(2), 2);
            due(name + ": method(1)", x.method(1), 1);
        }
    }

    private static void promise8Edges() {
        for (int n = 2; n <= 8; n++) {
            due("edges() of a path of " + n, path(n).edges(), n - 1);
            due("edges() of a complete graph of " + n, complete(n).edges(), n * (n - 1) / 2);
        }
        SafeSync x = complete(5);
        x.edge(1, 3, 0);
        x.edge(4, 0, 0);
        due("edges() after two are gone", x.edges(), 8);
    }

    private static void promise9Degree() {
        SafeSync star = new SafeSync(8);
        for (int v = 1; v < 8; v++) {
            due("degree(0) of a growing star", star.degree(0), v - 1);
            star.edge(v, 0, 1);
        }
        due("degree(0) of a star", star.degree(0), 7);
        due("degree(7) of a star", star.degree(7), 1);
        star.edge(0, 3, 0);
        due("degree(0) with an edge less", star.degree(0), 6);
        due("degree(3) with no edge", star.degree(3), 0);
        due("degree(-1)", star.degree(-1), -1);
        due("degree(8)", star.degree(8), -1);
        due("degree(MIN)", star.degree(MIN), -1);
        due("degree(MAX)", star.degree(MAX), -1);
        SafeSync small = path(3);
        due("degree(2) of three", small.degree(2), 1);
        due("degree(3) of three", small.degree(3), -1);
    }

    private static void promise10Parts() {
        for (int n = 2; n <= 8; n++) {
            due("parts() of a path of " + n, path(n).parts(), 1);
            due("parts() of a complete graph of " + n, complete(n).parts(), 1);
            due("parts() without edges, of " + n, new SafeSync(n).parts(), n);
        }
        SafeSync x = new SafeSync(8);
        // One row 7 - 0 - 6 - 1 - 5 - 2 - 4 - 3: its nodes do not rise along it.
        int[] row = {7, 0, 6, 1, 5, 2, 4, 3};
        for (int i = 0; i + 1 < row.length; i++) {
            x.edge(row[i], row[i + 1], 1);
            due("parts() of a winding row of " + (i + 2), x.parts(), 7 - i);
        }
        x.edge(7, 3, 1);
        due("parts() of a ring", x.parts(), 1);
        x.edge(6, 1, 0);
        due("parts() of a ring cut once", x.parts(), 1);
        x.edge(2, 4, 0);
        due("parts() of a ring cut twice", x.parts(), 2);
        x.edge(5, 2, 0);
        due("parts() with a node alone", x.parts(), 3);
    }

    private static void promise11State() {
        SafeSync x = path(3);
        setStarts(x, 5, 6, 7);
        due("state(0, 0)", x.state(0, 0), 5);
        due("state(2, 10)", x.state(2, 10), 7);
        due("state(0, 10)", x.state(0, 10), 7);
        int[] badNodes = {-1, 3, 7, 8, MIN, MAX};
        for (int b : badNodes) {
            due("state(" + b + ", 0)", x.state(b, 0), 0);
            due("state(" + b + ", 1)", x.state(b, 1), 0);
            due("state(" + b + ", 11)", x.state(b, 11), 0);
        }
        int[] badRounds = {-1, 11, 12, MIN, MAX};
        for (int b : badRounds) {
            due("state(0, " + b + ")", x.state(0, b), 0);
            due("state(2, " + b + ")", x.state(2, b), 0);
        }
        x.edge(1, 2, 0);
        due("state(0, 10) with the edge gone", x.state(0, 10), 6);
        x.start(0, 9);
        due("state(1, 1) with another start", x.state(1, 1), 9);
        x.program(1);
        due("state(0, 1) with another program", x.state(0, 1), 6);
    }

    private static void promise11StateOfEachProgram() {
        // 0 - 1 - 2 - 3, and node 4 alone.
        SafeSync x = new SafeSync(5);
        x.edge(0, 1, 1);
        x.edge(1, 2, 1);
        x.edge(2, 3, 1);
        setStarts(x, 12, -3, 5, 20, 1000);
        dueStates("program 0", x, 1, 12, 12, 20, 20, 1000);
        dueStates("program 0", x, 2, 12, 20, 20, 20, 1000);
        dueStates("program 0", x, 3, 20, 20, 20, 20, 1000);
        x.program(1);
        dueStates("program 1", x, 1, -3, -3, -3, 5, 1000);
        dueStates("program 1", x, 2, -3, -3, -3, -3, 1000);
        x.program(2);
        dueStates("program 2", x, 1, 9, 14, 22, 25, 1000);
        dueStates("program 2", x, 2, 23, 45, 61, 47, 1000);
        x.program(3);
        // -3 is ..11101, 12 is 01100, 5 is 00101, 20 is 10100.
        dueStates("program 3", x, 1, 12 ^ -3, 12 ^ -3 ^ 5, -3 ^ 5 ^ 20, 5 ^ 20, 1000);
        dueStates("program 3", x, 1, -15, -12, -20, 17, 1000);
        dueStates("program 3", x, 2, -15 ^ -12, -15 ^ -12 ^ -20, -12 ^ -20 ^ 17, -20 ^ 17, 1000);
        x.program(4);
        dueStates("program 4", x, 1, -2, -3, -2, 6, 1000);
        dueStates("program 4", x, 2, -2, -3, -2, -1, 1000);
        dueStates("program 4", x, 10, -2, -3, -2, -1, 1000);
        x.program(5);
        dueStates("program 5", x, 1, 39, -26, -2, 55, 3000);
        dueStates("program 5", x, 2, 143, -115, -35, 167, 9000);

        SafeSync low = path(3);
        setStarts(low, -1000, 1000, 1000);
        low.program(4);
        dueStates("program 4 at the edges", low, 1, -1000, -999, 1000);
        dueStates("program 4 at the edges", low, 2, -1000, -999, -998);

        SafeSync near = path(2);
        setStarts(near, 4, 5);
        near.program(4);
        dueStates("program 4, one apart", near, 1, 4, 5);
        near.start(1, 4);
        dueStates("program 4, none apart", near, 1, 4, 4);
        near.start(1, 6);
        dueStates("program 4, two apart", near, 1, 4, 5);
    }

    private static void promise11StateWraps() {
        // In a complete graph of 8, program 2 makes all states 8 times the sum before.
        SafeSync x = complete(8);
        for (int v = 0; v < 8; v++) {
            x.start(v, 1000);
        }
        x.program(2);
        due("program 2: state(0, 7)", x.state(0, 7), 2097152000);
        due("program 2: state(0, 8), wrapped", x.state(0, 8), (int) (1000L << 24));
        due("program 2: state(0, 8), wrapped", x.state(0, 8), -402653184);
        due("program 2: state(7, 10), wrapped", x.state(7, 10), (int) (1000L << 30));
        due("program 2: sum(7), wrapped", x.sum(7), -402653184);
        // Program 5 makes each state (3 - 7) times itself: (-4) to the power of the round.
        x.program(5);
        due("program 5: state(0, 1)", x.state(0, 1), -4000);
        due("program 5: state(0, 10)", x.state(0, 10), 1048576000);
        due("program 5: sum(10), wrapped", x.sum(10), -201326592);
        for (int v = 1; v < 8; v++) {
            x.start(v, -1000);
        }
        // Node 0 has 3 * s + 7 * s, the others 3 * -s + 6 * s - s.
        due("program 5: state(0, 1) against the others", x.state(0, 1), 10000);
        due("program 5: state(1, 1) against the others", x.state(1, 1), 2000);
        // A multiple of s = 1000 is followed as (a, b) in long: a of node 0, b of the others.
        long a = 1;
        long b = -1;
        for (int round = 1; round <= 10; round++) {
            long nextA = 3 * a - 7 * b;
            long nextB = 3 * b - a - 6 * b;
            a = nextA;
            b = nextB;
            due("program 5: state(0, " + round + ")", x.state(0, round), (int) (1000 * a));
            due("program 5: state(7, " + round + ")", x.state(7, round), (int) (1000 * b));
        }
    }

    private static void promise12Sum() {
        SafeSync x = path(3);
        setStarts(x, 1000, -1, 30);
        due("sum(0)", x.sum(0), 1029);
        due("sum(1)", x.sum(1), 2030);
        due("sum(2)", x.sum(2), 3000);
        due("sum(10)", x.sum(10), 3000);
        int[] bad = {-1, 11, MIN, MAX};
        for (int b : bad) {
            due("sum(" + b + ")", x.sum(b), 0);
        }
        SafeSync all = new SafeSync(8);
        for (int v = 0; v < 8; v++) {
            all.start(v, -1000);
        }
        due("sum(0) of eight", all.sum(0), -8000);
        all.program(5);
        due("sum(10) of eight, not wrapped", all.sum(10), -472392000);
    }

    private static void promise13Kinds() {
        SafeSync x = new SafeSync(8);
        due("kinds(0) of equal starts", x.kinds(0), 1);
        for (int v = 1; v < 8; v++) {
            x.start(v, v * 100);
            due("kinds(0) with " + (v + 1) + " different", x.kinds(0), v + 1);
        }
        setStarts(x, 5, 6, 5, 6, 5, 7, 7, 5);
        due("kinds(0) with equal ones apart", x.kinds(0), 3);
        SafeSync row = path(4);
        setStarts(row, 1, 2, 3, 4);
        due("kinds(1)", row.kinds(1), 3);
        due("kinds(2)", row.kinds(2), 2);
        due("kinds(3)", row.kinds(3), 1);
        due("kinds(10)", row.kinds(10), 1);
        setStarts(row, -1, 1, -1, 1);
        due("kinds(0) of a number and its negative", row.kinds(0), 2);
        int[] bad = {-1, 11, MIN, MAX};
        for (int b : bad) {
            due("kinds(" + b + ")", row.kinds(b), -1);
        }
    }

    private static void promise14Settled() {
        due("settled() of a new object", new SafeSync(8).settled(), 0);
        for (int n = 2; n <= 8; n++) {
            SafeSync x = path(n);
            x.start(0, 1);
            due("settled() of a path of " + n, x.settled(), n - 1);
        }
        SafeSync two = path(2);
        setStarts(two, 1, 1);
        two.program(2);
        due("settled() of what always doubles", two.settled(), -1);
        two.program(3);
        due("settled() at round 1, all 0", two.settled(), 1);
        // 3 * 1 - 1 is 2: it doubles, too.
        two.program(5);
        due("settled() of program 5", two.settled(), -1);
        // s + s' is 0 for 1 and -1, and stays so.
        setStarts(two, 1, -1);
        two.program(2);
        due("settled() of program 2", two.settled(), 1);

        // In complete(8) program 2 multiplies by 8: 512 = 2^9 needs 8 rounds to be 2^33, 0 as an int.
        SafeSync late = complete(8);
        for (int v = 0; v < 8; v++) {
            late.start(v, 512);
        }
        late.program(2);
        due("settled() by wrapping", late.settled(), 8);
        for (int v = 0; v < 8; v++) {
            late.start(v, 32);
        }
        // 2^5 becomes 2^32 after 9 rounds: the last round that may be answered.
        due("settled() at round 9", late.settled(), 9);
        for (int v = 0; v < 8; v++) {
            late.start(v, 16);
        }
        // 2^4 becomes 2^31 after 9 rounds and 0 only after 10.
        due("settled() when only round 10 is at rest", late.settled(), -1);
        due("changes(10) there", late.changes(10), 8);
    }

    private static void promise15Changes() {
        SafeSync x = path(4);
        setStarts(x, 9, 1, 1, 5);
        due("changes(1)", x.changes(1), 2);
        due("changes(2)", x.changes(2), 1);
        due("changes(3)", x.changes(3), 1);
        due("changes(4)", x.changes(4), 0);
        due("changes(10)", x.changes(10), 0);
        x.program(2);
        due("changes(1) of program 2", x.changes(1), 4);
        due("changes(10) of program 2", x.changes(10), 4);
        int[] bad = {-1, 0, 11, 12, MIN, MAX};
        for (int b : bad) {
            due("changes(" + b + ")", x.changes(b), -1);
        }
    }

    private static void promise16Reached() {
        SafeSync x = path(8);
        x.start(0, 3);
        for (int v = 0; v < 8; v++) {
            due("reached(" + v + ", 3)", x.reached(v, 3), v);
        }
        due("reached(7, 0)", x.reached(7, 0), 0);
        due("reached(0, 0)", x.reached(0, 0), -2);
        due("reached(0, MIN)", x.reached(0, MIN), -2);
        due("reached(0, MAX)", x.reached(0, MAX), -2);
        int[] bad = {-1, 8, MIN, MAX};
        for (int b : bad) {
            due("reached(" + b + ", 0)", x.reached(b, 0), -1);
            due("reached(" + b + ", 999)", x.reached(b, 999), -1);
        }
        SafeSync two = path(2);
        setStarts(two, 1, 1);
        two.program(2);
        due("reached(1, 1024)", two.reached(1, 1024), 10);
        due("reached(1, 2048)", two.reached(1, 2048), -2);
        // Program 3 on a row of three from 1, 0, 0: the middle is 0 1 0 1 ..
        SafeSync three = path(3);
        three.start(0, 1);
        three.program(3);
        due("reached(1, 0): the first of several rounds", three.reached(1, 0), 0);
        due("reached(1, 1): the first of several rounds", three.reached(1, 1), 1);
        due("reached(2, 1)", three.reached(2, 1), 2);
    }

    private static void promise17Overhead() {
        // 7 edges, 8 nodes, 3 parts: {0 1 2 3}, {4 5 6}, {7}.
        SafeSync x = new SafeSync(8);
        int[][] pairs = {{0, 1}, {1, 2}, {2, 3}, {3, 0}, {4, 5}, {5, 6}, {6, 4}};
        for (int[] pair : pairs) {
            x.edge(pair[0], pair[1], 1);
        }
        for (int round = 0; round <= 10; round++) {
            due("method 0: overhead(" + round + ")", x.overhead(round), 28 * round);
        }
        x.method(1);
        for (int round = 0; round <= 10; round++) {
            due("method 1: overhead(" + round + ")", x.overhead(round), 24 * round);
        }
        int[] bad = {-1, 11, MIN, MAX};
        for (int method = 0; method <= 1; method++) {
            x.method(method);
            for (int b : bad) {
                due("method " + method + ": overhead(" + b + ")", x.overhead(b), -1);
            }
        }
        x.edge(7, 0, 1);
        due("overhead(1) with an edge more", x.overhead(1), 28);
        x.method(0);
        due("overhead(1) with an edge more, method 0", x.overhead(1), 32);
        SafeSync none = new SafeSync(5);
        due("overhead(10) without edges", none.overhead(10), 0);
        none.method(1);
        due("overhead(10) without edges, method 1", none.overhead(10), 0);
        SafeSync full = complete(8);
        due("overhead(10) of all edges", full.overhead(10), 1120);
        full.method(1);
        due("overhead(10) of all edges, method 1", full.overhead(10), 700);
        full.program(4);
        full.start(3, 77);
        due("overhead(10) hangs on no state", full.overhead(10), 700);
    }
}
