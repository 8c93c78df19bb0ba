import java.util.ArrayList;
import java.util.LinkedHashMap;
import java.util.List;
import java.util.Map;
import java.util.function.ToIntFunction;

// "No question changes anything. A refused call changes nothing": every answer that can be asked for is the
// same before and after such a call, on the same object, and what was set is still what the setting calls
// answer. Every method has a test of its own.
public final class UnchangedTest {
    private static final int MIN = Integer.MIN_VALUE;
    private static final int MAX = Integer.MAX_VALUE;
    private static final int[] WILD = {MIN, -1001, -2, -1, 0, 1, 2, 5, 6, 7, 8, 9, 10, 11, 12, 31, 32, 33, 1001, MAX};

    /** An object as it is set up: how many of the edges there are (none, some, all), the program and the method. */
    private record Setting(int n, int edges, int program, int method) {
    }

    public static void main(String[] args) {
        List<Setting> settings = settings();
        for (String method : callsWithoutEffect(2).keySet()) {
            Due.sentence(method, () -> tryOn(settings, method));
        }
        Due.sentence("a METHOD, which matters for overhead only", () -> tryOtherMethodOn(settings));
        Due.end();
    }

    private static List<Setting> settings() {
        List<Setting> settings = new ArrayList<>();
        for (int program = 0; program <= 5; program++) {
            for (int n : new int[] {2, 5, 8}) {
                settings.add(new Setting(n, 1, program, program % 2));
            }
            settings.add(new Setting(8, 1, program, 1 - program % 2));
            settings.add(new Setting(8, 2, program, program % 2));
            settings.add(new Setting(2 + program, 0, program, 1));
        }
        return settings;
    }

    /** With 8 nodes an object gets at most 38 calls to be set up, 210 twice, one to be tried and 46 at the end: 505. */
    private static void tryOn(List<Setting> settings, String method) {
        for (Setting setting : settings) {
            List<Call> questions = Call.everyQuestion(setting.n);
            List<Call> ends = callsThatEndTheUse(setting.n);
            List<Integer> due = answersOnNewObjects(setting, questions);
            List<Integer> endsDue = answers(prepared(setting), ends);
            for (Call call : callsWithoutEffect(setting.n).get(method)) {
                SafeSync x = prepared(setting);
                compare(setting + ", before " + call.told(), questions, answers(x, questions), due);
                call.made().applyAsInt(x);
                compare(setting + ", after " + call.told(), questions, answers(x, questions), due);
                compare(setting + ", after " + call.told(), ends, answers(x, ends), endsDue);
                if (Due.enoughToldOfSentence()) {
                    return;
                }
            }
        }
    }

    private static void tryOtherMethodOn(List<Setting> settings) {
        for (Setting setting : settings) {
            List<Call> questions = Call.everyQuestion(setting.n);
            questions.removeIf(question -> question.told().startsWith("overhead"));
            SafeSync x = prepared(setting);
            x.method(1 - setting.method);
            List<Integer> due = answersOnNewObjects(setting, questions);
            compare(setting + ", with the other method", questions, answers(x, questions), due);
        }
    }

    private static void compare(String when, List<Call> asked, List<Integer> got, List<Integer> want) {
        for (int i = 0; i < asked.size(); i++) {
            String told = asked.get(i).told();
            Due.answer(() -> when + ": " + told, got.get(i), want.get(i));
        }
    }

    private static SafeSync prepared(Setting setting) {
        SafeSync x = new SafeSync(setting.n);
        for (int v = 0; v < setting.n; v++) {
            x.start(v, (v * 37 + 11) % 50 - 20);
            for (int u = 0; u < v; u++) {
                boolean some = v == u + 1 && u % 4 != 3 || u == 5 && v == 7;
                if (setting.edges == 2 || setting.edges == 1 && some) {
                    x.edge(u, v, 1);
                }
            }
        }
        x.program(setting.program);
        x.method(setting.method);
        return x;
    }

    /** Each question is asked of an object that was asked nothing before, so that none can spoil what is due. */
    private static List<Integer> answersOnNewObjects(Setting setting, List<Call> questions) {
        List<Integer> answers = new ArrayList<>();
        for (Call question : questions) {
            answers.add(question.made().applyAsInt(prepared(setting)));
        }
        return answers;
    }

    private static List<Integer> answers(SafeSync x, List<Call> calls) {
        List<Integer> answers = new ArrayList<>();
        for (Call call : calls) {
            answers.add(call.made().applyAsInt(x));
        }
        return answers;
    }

    /** They answer what was set before and show it under another program; the object is not used after them. */
    private static List<Call> callsThatEndTheUse(int n) {
        List<Call> calls = new ArrayList<>();
        calls.add(new Call("program(2)", x -> x.program(2)));
        for (int v = 0; v < n; v++) {
            int node = v;
            calls.add(new Call("state(" + v + ", 3) after program(2)", x -> x.state(node, 3)));
        }
        calls.add(new Call("method(0)", x -> x.method(0)));
        for (int u = 0; u < n; u++) {
            int node = u;
            calls.add(new Call("start(" + u + ", 0)", x -> x.start(node, 0)));
            for (int v = u + 1; v < n; v++) {
                int other = v;
                calls.add(new Call("edge(" + u + ", " + v + ", 0)", x -> x.edge(node, other, 0)));
            }
        }
        return calls;
    }

    private static Map<String, List<Call>> callsWithoutEffect(int n) {
        Map<String, List<Call>> calls = new LinkedHashMap<>();
        calls.put("A refused call changes nothing: edge", refusedEdges(n));
        calls.put("A refused call changes nothing: start", refusedStarts(n));
        calls.put("A refused call changes nothing: program", refusedPrograms());
        calls.put("A refused call changes nothing: method", refusedMethods());
        calls.put("No question changes anything: nodes", List.of(new Call("nodes()", SafeSync::nodes)));
        calls.put("No question changes anything: edges", List.of(new Call("edges()", SafeSync::edges)));
        calls.put("No question changes anything: parts", List.of(new Call("parts()", SafeSync::parts)));
        calls.put("No question changes anything: settled", List.of(new Call("settled()", SafeSync::settled)));
        for (String name : new String[] {"degree", "sum", "kinds", "changes", "overhead", "state", "reached"}) {
            calls.put("No question changes anything: " + name, new ArrayList<>());
        }
        for (int a : WILD) {
            addQuestion(calls, "degree", "(" + a + ")", x -> x.degree(a));
            addQuestion(calls, "sum", "(" + a + ")", x -> x.sum(a));
            addQuestion(calls, "kinds", "(" + a + ")", x -> x.kinds(a));
            addQuestion(calls, "changes", "(" + a + ")", x -> x.changes(a));
            addQuestion(calls, "overhead", "(" + a + ")", x -> x.overhead(a));
            for (int b : WILD) {
                addQuestion(calls, "state", "(" + a + ", " + b + ")", x -> x.state(a, b));
                addQuestion(calls, "reached", "(" + a + ", " + b + ")", x -> x.reached(a, b));
            }
        }
        return calls;
    }

    private static void addQuestion(Map<String, List<Call>> calls, String name, String arguments,
            ToIntFunction<SafeSync> made) {
        calls.get("No question changes anything: " + name).add(new Call(name + arguments, made));
    }

    /** Those with a node that is not good, and those with two equal nodes. */
    private static List<Call> refusedEdges(int n) {
        List<Call> calls = new ArrayList<>();
        for (int u : WILD) {
            for (int v : WILD) {
                if (u < 0 || u >= n || v < 0 || v >= n || u == v) {
                    calls.add(new Call("edge(" + u + ", " + v + ", 1)", x -> x.edge(u, v, 1)));
                    calls.add(new Call("edge(" + u + ", " + v + ", 0)", x -> x.edge(u, v, 0)));
                }
            }
        }
        return calls;
    }

    /** Those with a node that is not good, and those with a value outside -1000 .. 1000. */
    private static List<Call> refusedStarts(int n) {
        List<Call> calls = new ArrayList<>();
        for (int v : WILD) {
            for (int value : WILD) {
                if (v < 0 || v >= n || value < -1000 || value > 1000) {
                    calls.add(new Call("start(" + v + ", " + value + ")", x -> x.start(v, value)));
                }
            }
        }
        return calls;
    }

    private static List<Call> refusedPrograms() {
        List<Call> calls = new ArrayList<>();
        for (int kind : WILD) {
            if (kind < 0 || kind > 5) {
                calls.add(new Call("program(" + kind + ")", x -> x.program(kind)));
            }
        }
        return calls;
    }

    private static List<Call> refusedMethods() {
        List<Call> calls = new ArrayList<>();
        for (int kind : WILD) {
            if (kind < 0 || kind > 1) {
                calls.add(new Call("method(" + kind + ")", x -> x.method(kind)));
            }
        }
        return calls;
    }
}
