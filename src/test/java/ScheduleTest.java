import java.util.ArrayList;
import java.util.List;

// "a SCHEDULE, any int, on which no answer of any call depends": the same calls on an object that never got a
// schedule, on one for each of several schedules, and on one that gets another schedule before every call.
public final class ScheduleTest {
    private static final int[] SEEDS = {Integer.MIN_VALUE, Integer.MAX_VALUE, 0, 1, -1, 2, 3, 7, 8, -8, 31, 32, 255, 256,
        65535, 123456789, -987654321, Integer.MIN_VALUE + 1, Integer.MAX_VALUE - 1};

    public static void main(String[] args) {
        for (int seed : SEEDS) {
            Due.sentence("schedule " + seed + " set at first", () -> compareAll(new int[] {seed}, false));
            Due.sentence("schedule " + seed + " set before every call", () -> compareAll(new int[] {seed}, true));
        }
        Due.sentence("another schedule before every call", () -> compareAll(SEEDS, true));
        Due.end();
    }

    private static void compareAll(int[] seeds, boolean beforeEveryCall) {
        for (int program = 0; program <= 5; program++) {
            for (int method = 0; method <= 1; method++) {
                compare(seeds, beforeEveryCall, calls(program, method));
            }
        }
    }

    private static void compare(int[] seeds, boolean beforeEveryCall, List<Call> calls) {
        SafeSync without = new SafeSync(5);
        SafeSync with = new SafeSync(5);
        with.schedule(seeds[0]);
        for (int i = 0; i < calls.size(); i++) {
            Call call = calls.get(i);
            if (beforeEveryCall) {
                with.schedule(seeds[i % seeds.length]);
            }
            Due.answer(call::told, call.made().applyAsInt(with), call.made().applyAsInt(without));
        }
    }

    /** Every method, with right and wrong inputs: 189 calls, 369 with a schedule before each. */
    private static List<Call> calls(int program, int method) {
        List<Call> calls = new ArrayList<>();
        addSettings(calls, program, method);
        calls.addAll(Call.everyQuestion(5));
        // Setting once more what is set answers what was before.
        addSettings(calls, program, method);
        return calls;
    }

    private static void addSettings(List<Call> calls, int program, int method) {
        int[][] pairs = {{0, 1}, {1, 2}, {2, 0}, {3, 2}, {4, 4}, {5, 0}};
        for (int[] pair : pairs) {
            calls.add(new Call("edge(" + pair[0] + ", " + pair[1] + ", 1)", x -> x.edge(pair[0], pair[1], 1)));
        }
        calls.add(new Call("edge(1, 2, 0)", x -> x.edge(1, 2, 0)));
        int[] starts = {17, -40, 1000, 3, -6, 8};
        for (int v = 0; v < starts.length; v++) {
            int node = v;
            calls.add(new Call("start(" + v + ", " + starts[v] + ")", x -> x.start(node, starts[node])));
        }
        calls.add(new Call("start(0, 1001)", x -> x.start(0, 1001)));
        calls.add(new Call("program(" + program + ")", x -> x.program(program)));
        calls.add(new Call("program(6)", x -> x.program(6)));
        calls.add(new Call("method(" + method + ")", x -> x.method(method)));
        calls.add(new Call("method(2)", x -> x.method(2)));
    }
}
