import java.util.ArrayList;
import java.util.List;
import java.util.function.ToIntFunction;

/** A call, told as it is written, and how it is made. */
record Call(String told, ToIntFunction<SafeSync> made) {
    /** All that can be asked for, of every node and every round, and just outside them: 210 calls with 8 nodes. */
    static List<Call> everyQuestion(int n) {
        List<Call> calls = new ArrayList<>();
        calls.add(new Call("nodes()", SafeSync::nodes));
        calls.add(new Call("edges()", SafeSync::edges));
        calls.add(new Call("parts()", SafeSync::parts));
        calls.add(new Call("settled()", SafeSync::settled));
        calls.add(new Call("degree(-1)", x -> x.degree(-1)));
        calls.add(new Call("degree(" + n + ")", x -> x.degree(n)));
        for (int v = 0; v < n; v++) {
            int node = v;
            calls.add(new Call("degree(" + v + ")", x -> x.degree(node)));
            calls.add(new Call("reached(" + v + ", 0)", x -> x.reached(node, 0)));
            calls.add(new Call("reached(" + v + ", its state after 5)", x -> x.reached(node, x.state(node, 5))));
            calls.add(new Call("reached(" + v + ", its state after 10)", x -> x.reached(node, x.state(node, 10))));
        }
        for (int r = -1; r <= 11; r++) {
            int round = r;
            calls.add(new Call("sum(" + r + ")", x -> x.sum(round)));
            calls.add(new Call("kinds(" + r + ")", x -> x.kinds(round)));
            calls.add(new Call("changes(" + r + ")", x -> x.changes(round)));
            calls.add(new Call("overhead(" + r + ")", x -> x.overhead(round)));
            for (int v = 0; v < n; v++) {
                int node = v;
                calls.add(new Call("state(" + v + ", " + r + ")", x -> x.state(node, round)));
            }
        }
        return calls;
    }
}
