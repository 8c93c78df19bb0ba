/**
 * A run of calls on a new object: x.edge(0, 1, 1).due(0). A wrong answer is told with every call before it
 * that was not a question, and a run that is longer than the document allows is a fault of the test.
 */
final class Run {
    /** Nothing is promised of an object after its 512th call. */
    private static final int MOST_CALLS = 512;
    private final SafeSync object;
    private final StringBuilder before = new StringBuilder();
    private int calls = 0;

    Run(int nodes) {
        object = new SafeSync(nodes);
        before.append("new SafeSync(").append(nodes).append(")");
    }

    /** The nodes 0 .. n-1 in a row, each joined to the next. */
    static Run path(int n) {
        Run x = new Run(n);
        for (int v = 0; v + 1 < n; v++) {
            x.edge(v, v + 1, 1);
        }
        return x;
    }

    /** An edge between every two nodes. */
    static Run full(int n) {
        Run x = new Run(n);
        for (int u = 0; u < n; u++) {
            for (int v = u + 1; v < n; v++) {
                x.edge(u, v, 1);
            }
        }
        return x;
    }

    Run starts(int... values) {
        for (int v = 0; v < values.length; v++) {
            start(v, values[v]);
        }
        return this;
    }

    int calls() {
        return calls;
    }

    Answer nodes() {
        return asked(object.nodes(), "nodes");
    }

    Answer edge(int u, int v, int flag) {
        return set(asked(object.edge(u, v, flag), "edge", u, v, flag));
    }

    Answer start(int v, int value) {
        return set(asked(object.start(v, value), "start", v, value));
    }

    Answer program(int kind) {
        return set(asked(object.program(kind), "program", kind));
    }

    Answer method(int kind) {
        return set(asked(object.method(kind), "method", kind));
    }

    void schedule(int seed) {
        object.schedule(seed);
        set(asked(0, "schedule", seed));
    }

    Answer edges() {
        return asked(object.edges(), "edges");
    }

    Answer degree(int v) {
        return asked(object.degree(v), "degree", v);
    }

    Answer parts() {
        return asked(object.parts(), "parts");
    }

    Answer state(int v, int round) {
        return asked(object.state(v, round), "state", v, round);
    }

    Answer sum(int round) {
        return asked(object.sum(round), "sum", round);
    }

    Answer kinds(int round) {
        return asked(object.kinds(round), "kinds", round);
    }

    Answer settled() {
        return asked(object.settled(), "settled");
    }

    Answer changes(int round) {
        return asked(object.changes(round), "changes", round);
    }

    Answer reached(int v, int value) {
        return asked(object.reached(v, value), "reached", v, value);
    }

    Answer overhead(int round) {
        return asked(object.overhead(round), "overhead", round);
    }

    /** The states of the nodes 0, 1, .. after a round. */
    void statesDue(int round, int... want) {
        for (int v = 0; v < want.length; v++) {
            state(v, round).due(want[v]);
        }
    }

    private Answer asked(int value, String name, int... arguments) {
        calls++;
        if (calls > MOST_CALLS) {
            Due.wrong("the test makes more than " + MOST_CALLS + " calls on one object");
        }
        StringBuilder call = new StringBuilder(name).append('(');
        for (int i = 0; i < arguments.length; i++) {
            call.append(i == 0 ? "" : ", ").append(arguments[i]);
        }
        return new Answer(this, before.length(), call.append(')').toString(), value);
    }

    private Answer set(Answer answer) {
        before.append("; ").append(answer.call);
        return answer;
    }

    record Answer(Run run, int toldBefore, String call, int value) {
        void due(int want) {
            Due.answer(() -> run.before.substring(0, toldBefore) + "; " + call, value, want);
        }
    }
}
