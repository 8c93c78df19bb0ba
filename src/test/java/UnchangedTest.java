import java.util.ArrayList;
import java.util.Arrays;
import java.util.LinkedHashMap;
import java.util.List;
import java.util.Map;
import java.util.function.Consumer;

// "No question changes anything. A refused call changes nothing", and no answer hangs on the schedule:
// after such a call an object answers everything as one does that never got it.
public final class UnchangedTest {
    private static final int MIN = Integer.MIN_VALUE;
    private static final int MAX = Integer.MAX_VALUE;
    private static int wrong = 0;

    public static void main(String[] args) {
        for (int n : new int[] {2, 3, 5, 8}) {
            for (int program = 0; program <= 5; program++) {
                for (int method = 0; method <= 1; method++) {
                    tryAllCalls(n, program, method);
                }
            }
        }
        System.out.println(wrong == 0 ? "no call changed anything" : wrong + " calls changed something");
        if (wrong != 0) {
            System.exit(1);
        }
    }

    private static void tryAllCalls(int n, int program, int method) {
        List<Integer> want = everyAnswer(prepared(n, program, method));
        for (Map.Entry<String, Consumer<SafeSync>> call : callsWithoutEffect(n).entrySet()) {
            SafeSync x = prepared(n, program, method);
            call.getValue().accept(x);
            List<Integer> got = everyAnswer(x);
            if (!got.equals(want)) {
                wrong++;
                System.out.println("n " + n + ", program " + program + ", method " + method + ": "
                    + call.getKey() + " changed the answers from " + want + " to " + got);
            }
        }
    }

    private static SafeSync prepared(int n, int program, int method) {
        SafeSync x = new SafeSync(n);
        for (int v = 0; v < n; v++) {
            x.start(v, (v * 37 + 11) % 50 - 20);
        }
        for (int v = 0; v + 1 < n; v++) {
            x.edge(v, v + 1, v % 4 == 3 ? 0 : 1);
        }
        if (n > 5) {
            x.edge(5, 7, 1);
        }
        x.program(program);
        x.method(method);
        return x;
    }

    private static Map<String, Consumer<SafeSync>> callsWithoutEffect(int n) {
        Map<String, Consumer<SafeSync>> calls = new LinkedHashMap<>();
        int[] wild = {MIN, -1001, -2, -1, 0, 1, 2, 5, 6, 7, 8, 9, 10, 11, 12, 31, 32, 33, 1001, MAX};
        calls.put("nodes()", SafeSync::nodes);
        calls.put("edges()", SafeSync::edges);
        calls.put("parts()", SafeSync::parts);
        calls.put("settled()", SafeSync::settled);
        for (int a : wild) {
            calls.put("schedule(" + a + ")", x -> x.schedule(a));
            calls.put("degree(" + a + ")", x -> x.degree(a));
            calls.put("sum(" + a + ")", x -> x.sum(a));
            calls.put("kinds(" + a + ")", x -> x.kinds(a));
            calls.put("changes(" + a + ")", x -> x.changes(a));
            calls.put("overhead(" + a + ")", x -> x.overhead(a));
            calls.put("edge(" + a + ", " + a + ", 1)", x -> x.edge(a, a, 1));
            calls.put("edge(" + a + ", " + a + ", 0)", x -> x.edge(a, a, 0));
            if (a < 0 || a > 5) {
                calls.put("program(" + a + ")", x -> x.program(a));
            }
            if (a < 0 || a > 1) {
                calls.put("method(" + a + ")", x -> x.method(a));
            }
            for (int b : wild) {
                calls.put("state(" + a + ", " + b + ")", x -> x.state(a, b));
                calls.put("reached(" + a + ", " + b + ")", x -> x.reached(a, b));
                if (a < 0 || a >= n || b < -1000 || b > 1000) {
                    calls.put("start(" + a + ", " + b + ")", x -> x.start(a, b));
                }
                if (a < 0 || a >= n || b < 0 || b >= n) {
                    calls.put("edge(" + a + ", " + b + ", 1)", x -> x.edge(a, b, 1));
                    calls.put("edge(" + a + ", " + b + ", 0)", x -> x.edge(a, b, 0));
                }
            }
        }
        return calls;
    }

    /** All questions first; then the calls that answer what was set before, as they end the object's use. */
    private static List<Integer> everyAnswer(SafeSync x) {
        List<Integer> answers = new ArrayList<>(Arrays.asList(x.nodes(), x.edges(), x.parts(), x.settled()));
        int n = x.nodes();
        for (int round = 0; round <= 10; round++) {
            answers.addAll(Arrays.asList(x.sum(round), x.kinds(round), x.changes(round), x.overhead(round)));
            for (int v = 0; v < n; v++) {
                answers.add(x.state(v, round));
            }
        }
        for (int v = 0; v < n; v++) {
            answers.addAll(Arrays.asList(x.degree(v), x.reached(v, 0), x.reached(v, x.state(v, 10))));
        }
        // Adding up shows the starts and edges in another light than the program that was set.
        answers.add(x.program(2));
        for (int v = 0; v < n; v++) {
            answers.add(x.state(v, 3));
        }
        answers.add(x.method(0));
        for (int u = 0; u < n; u++) {
            answers.add(x.start(u, 0));
            for (int v = u + 1; v < n; v++) {
                answers.add(x.edge(u, v, 0));
            }
        }
        return answers;
    }
}
