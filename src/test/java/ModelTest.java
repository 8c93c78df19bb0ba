import java.util.ArrayList;
import java.util.HashSet;
import java.util.List;
import java.util.Set;

// Long mixed runs of calls, right and wrong, held against a second and plainer writing of the document.
// Each run is played on two objects whose schedules differ (promise 7).
public final class ModelTest {
    /** Nothing is promised of an object after its 512th call. */
    private static final int MOST_CALLS = 512;
    private static final int RUNS = 2000;
    private static final int CALL_KINDS = 16;

    public static void main(String[] args) {
        for (int run = 0; run < RUNS && !Due.enoughToldOfSentence(); run++) {
            playRun(run);
        }
        everyGraphOfFour();
        Due.end();
    }

    private static void playRun(int run) {
        Numbers numbers = new Numbers(run);
        int size = numbers.oneOf(-3, 0, 1, 2, 3, 4, 5, 6, 7, 8, 8, 8, 9, 40);
        SafeSync object = new SafeSync(size);
        SafeSync twin = new SafeSync(size);
        Model model = new Model(size);
        // Some runs keep most edges and some few, so that both dense and torn graphs are met.
        int edgesKept = numbers.below(101);
        List<String> told = new ArrayList<>();
        // The last kind of call asks twice.
        for (int made = 0; made + 2 <= MOST_CALLS; made++) {
            if (numbers.below(8) == 0) {
                int seed = numbers.anyInt();
                object.schedule(seed);
                twin.schedule(run % 2 == 0 ? ~seed : 0);
                told.add("schedule(" + seed + ")");
                continue;
            }
            int[] call = someCall(numbers, model.n, edgesKept);
            made += call[0] == CALL_KINDS - 1 ? 1 : 0;
            told.add(text(call));
            int want = answer(model, call);
            int got = answer(object, call);
            int gotOfTwin = answer(twin, call);
            Due.answer(() -> "run " + run + ", new SafeSync(" + size + "): " + told, got, want);
            Due.answer(() -> "run " + run + ", new SafeSync(" + size + "), other schedules: " + told, gotOfTwin, want);
            if (got != want || gotOfTwin != want) {
                return;
            }
        }
    }

    private static int[] someCall(Numbers numbers, int n, int edgesKept) {
        int kind = numbers.below(CALL_KINDS + 4);
        if (kind >= CALL_KINDS) {
            kind = kind % 2 == 0 ? 1 : 2;
        }
        int v = node(numbers, n);
        switch (kind) {
            case 1:
                int flag = numbers.below(100) < edgesKept ? numbers.oneOf(1, 1, -1, 7, 256, Integer.MIN_VALUE) : 0;
                return new int[] {kind, v, node(numbers, n), flag};
            case 2:
                return new int[] {kind, v, startValue(numbers), 0};
            case 3:
                return new int[] {kind, numbers.oneOf(0, 1, 2, 3, 4, 5, 0, 1, 2, 3, 4, 5, -1, 6, numbers.anyInt()), 0, 0};
            case 4:
                return new int[] {kind, numbers.oneOf(0, 1, 0, 1, 2, -1, numbers.anyInt()), 0, 0};
            case 8:
                return new int[] {kind, v, round(numbers), 0};
            case 13:
                return new int[] {kind, v, numbers.below(3) == 0 ? 0 : startValue(numbers), 0};
            case 15:
                // A value that the node has at some time, so that late rounds are met.
                return new int[] {kind, v, round(numbers), 0};
            case 6:
                return new int[] {kind, v, 0, 0};
            default:
                return new int[] {kind, round(numbers), 0, 0};
        }
    }

    private static int node(Numbers numbers, int n) {
        return numbers.below(12) == 0 ? numbers.oneOf(-1, n, 8, 32, numbers.anyInt()) : numbers.below(n);
    }

    private static int round(Numbers numbers) {
        return numbers.below(10) == 0 ? numbers.oneOf(-1, 11, numbers.anyInt()) : numbers.below(11);
    }

    private static int startValue(Numbers numbers) {
        switch (numbers.below(4)) {
            case 0:
                return numbers.oneOf(-1001, -1000, -999, 0, 999, 1000, 1001, numbers.anyInt());
            case 1:
                return numbers.below(7) - 3;
            default:
                return numbers.below(2001) - 1000;
        }
    }

    private static String text(int[] call) {
        String[] names = {"nodes", "edge", "start", "program", "method", "edges", "degree", "parts", "state", "sum",
            "kinds", "settled", "changes", "reached", "overhead", "reached its state after"};
        int[] counts = {0, 3, 2, 1, 1, 0, 1, 0, 2, 1, 1, 0, 1, 2, 1, 2};
        StringBuilder out = new StringBuilder(names[call[0]]).append('(');
        for (int i = 1; i <= counts[call[0]]; i++) {
            out.append(i == 1 ? "" : ", ").append(call[i]);
        }
        return out.append(')').toString();
    }

    private static int answer(SafeSync x, int[] c) {
        switch (c[0]) {
            case 0: return x.nodes();
            case 1: return x.edge(c[1], c[2], c[3]);
            case 2: return x.start(c[1], c[2]);
            case 3: return x.program(c[1]);
            case 4: return x.method(c[1]);
            case 5: return x.edges();
            case 6: return x.degree(c[1]);
            case 7: return x.parts();
            case 8: return x.state(c[1], c[2]);
            case 9: return x.sum(c[1]);
            case 10: return x.kinds(c[1]);
            case 11: return x.settled();
            case 12: return x.changes(c[1]);
            case 13: return x.reached(c[1], c[2]);
            case 14: return x.overhead(c[1]);
            default: return x.reached(c[1], x.state(c[1], c[2]));
        }
    }

    private static int answer(Model m, int[] c) {
        switch (c[0]) {
            case 0: return m.n;
            case 1: return m.edge(c[1], c[2], c[3]);
            case 2: return m.start(c[1], c[2]);
            case 3: return m.program(c[1]);
            case 4: return m.method(c[1]);
            case 5: return m.pairs.size();
            case 6: return m.good(c[1]) ? m.around(c[1]).size() : -1;
            case 7: return m.parts();
            case 8: return m.good(c[1]) && m.roundGood(c[2]) ? m.after(c[2])[c[1]] : 0;
            case 9: return m.sum(c[1]);
            case 10: return m.kinds(c[1]);
            case 11: return m.settled();
            case 12: return m.changes(c[1]);
            case 13: return m.reached(c[1], c[2]);
            case 14: return m.overhead(c[1]);
            default: return m.reached(c[1], m.good(c[1]) && m.roundGood(c[2]) ? m.after(c[2])[c[1]] : 0);
        }
    }

    /** All 64 graphs of four nodes with all programs: nothing is left to the numbers drawn. */
    private static void everyGraphOfFour() {
        int[][] starts = {{1000, -1000, 3, 0}, {0, 1, 2, 3}, {7, 7, -7, 7}};
        for (int graph = 0; graph < 64 && !Due.enoughToldOfSentence(); graph++) {
            for (int program = 0; program <= 5; program++) {
                for (int[] values : starts) {
                    compareAll(graph, program, values);
                }
            }
        }
    }

    private static void compareAll(int graph, int program, int[] values) {
        List<int[]> calls = new ArrayList<>();
        int bit = 0;
        for (int u = 0; u < 4; u++) {
            calls.add(new int[] {2, u, values[u], 0});
            for (int v = u + 1; v < 4; v++) {
                calls.add(new int[] {1, v, u, graph >> bit & 1});
                bit++;
            }
        }
        calls.add(new int[] {3, program, 0, 0});
        for (int round = -1; round <= 11; round++) {
            for (int v = -1; v <= 4; v++) {
                calls.add(new int[] {8, v, round, 0});
                calls.add(new int[] {15, v, round, 0});
            }
            for (int kind : new int[] {9, 10, 12, 14}) {
                calls.add(new int[] {kind, round, 0, 0});
            }
        }
        for (int kind : new int[] {5, 7, 11}) {
            calls.add(new int[] {kind, 0, 0, 0});
        }
        calls.add(new int[] {4, 1, 0, 0});
        calls.add(new int[] {14, 3, 0, 0});
        SafeSync object = new SafeSync(4);
        Model model = new Model(4);
        for (int[] call : calls) {
            String when = "graph " + graph + ", program " + program + ": ";
            Due.answer(() -> when + text(call), answer(object, call), answer(model, call));
        }
    }

    /** The same numbers in every run of the test. */
    private static final class Numbers {
        private long seed;

        Numbers(int run) {
            seed = run * 7919L + 12345L;
            anyInt();
        }

        int anyInt() {
            seed = seed * 6364136223846793005L + 1442695040888963407L;
            return (int) (seed >>> 32);
        }

        int below(int bound) {
            return Math.floorMod(anyInt() >>> 3, bound);
        }

        int oneOf(int... values) {
            return values[below(values.length)];
        }
    }

    /** The document once more, with nothing kept but what the calls set. */
    private static final class Model {
        final int n;
        final Set<Set<Integer>> pairs = new HashSet<>();
        private final int[] starts;
        private int program = 0;
        private int method = 0;

        Model(int nodes) {
            n = Math.max(2, Math.min(8, nodes));
            starts = new int[n];
        }

        boolean good(int v) {
            return 0 <= v && v <= n - 1;
        }

        boolean roundGood(int round) {
            return 0 <= round && round <= 10;
        }

        int edge(int u, int v, int flag) {
            if (!good(u) || !good(v)) {
                return -1;
            }
            if (u == v) {
                return -2;
            }
            Set<Integer> pair = Set.of(u, v);
            boolean before = flag != 0 ? !pairs.add(pair) : pairs.remove(pair);
            return before ? 1 : 0;
        }

        int start(int v, int value) {
            if (!good(v)) {
                return -1;
            }
            if (Math.abs((long) value) > 1000) {
                return -2;
            }
            int before = starts[v];
            starts[v] = value;
            return before;
        }

        int program(int kind) {
            if (kind < 0 || kind > 5) {
                return -1;
            }
            int before = program;
            program = kind;
            return before;
        }

        int method(int kind) {
            if (kind != 0 && kind != 1) {
                return -1;
            }
            int before = method;
            method = kind;
            return before;
        }

        List<Integer> around(int v) {
            List<Integer> found = new ArrayList<>();
            for (int u = 0; u < n; u++) {
                if (u != v && pairs.contains(Set.of(u, v))) {
                    found.add(u);
                }
            }
            return found;
        }

        /** Every edge between two parts makes one part of them. */
        int parts() {
            int[] partOf = new int[n];
            for (int v = 0; v < n; v++) {
                partOf[v] = v;
            }
            int count = n;
            for (Set<Integer> pair : pairs) {
                int[] ends = pair.stream().mapToInt(Integer::intValue).toArray();
                int kept = partOf[ends[0]];
                int gone = partOf[ends[1]];
                if (kept != gone) {
                    count--;
                    for (int v = 0; v < n; v++) {
                        partOf[v] = partOf[v] == gone ? kept : partOf[v];
                    }
                }
            }
            return count;
        }

        int[] after(int round) {
            int[] now = starts.clone();
            List<List<Integer>> nearOf = new ArrayList<>();
            for (int v = 0; v < n; v++) {
                nearOf.add(around(v));
            }
            for (int p = 0; p < round; p++) {
                int[] next = new int[n];
                for (int v = 0; v < n; v++) {
                    int[] old = now;
                    next[v] = next(now[v], nearOf.get(v).stream().mapToInt(u -> old[u]).toArray());
                }
                now = next;
            }
            return now;
        }

        private int next(int s, int[] near) {
            long greatest = Long.MIN_VALUE;
            long least = Long.MAX_VALUE;
            long sum = 0;
            int mixed = 0;
            for (int state : near) {
                greatest = Math.max(greatest, state);
                least = Math.min(least, state);
                sum += state;
                mixed ^= state;
            }
            switch (program) {
                case 0: return (int) Math.max(s, greatest);
                case 1: return (int) Math.min(s, least);
                case 2: return (int) (s + sum);
                case 3: return s ^ mixed;
                case 4: return near.length == 0 ? s : (int) Math.min(s, 1 + least);
                default: return (int) (3L * s - sum);
            }
        }

        int sum(int round) {
            long total = 0;
            if (roundGood(round)) {
                for (int state : after(round)) {
                    total += state;
                }
            }
            return (int) total;
        }

        int kinds(int round) {
            if (!roundGood(round)) {
                return -1;
            }
            Set<Integer> different = new HashSet<>();
            for (int state : after(round)) {
                different.add(state);
            }
            return different.size();
        }

        int changes(int round) {
            if (round < 1 || round > 10) {
                return -1;
            }
            int[] before = after(round - 1);
            int[] now = after(round);
            int count = 0;
            for (int v = 0; v < n; v++) {
                count += before[v] == now[v] ? 0 : 1;
            }
            return count;
        }

        int settled() {
            int r = 0;
            while (r < 10 && changes(r + 1) != 0) {
                r++;
            }
            return r == 10 ? -1 : r;
        }

        int reached(int v, int value) {
            if (!good(v)) {
                return -1;
            }
            int round = 0;
            while (round <= 10 && after(round)[v] != value) {
                round++;
            }
            return round == 11 ? -2 : round;
        }

        int overhead(int round) {
            if (!roundGood(round)) {
                return -1;
            }
            int e = pairs.size();
            int total = 0;
            for (int p = 1; p <= round; p++) {
                total += method == 0 ? 4 * e : 2 * e + 2 * (n - parts());
            }
            return total;
        }
    }
}
