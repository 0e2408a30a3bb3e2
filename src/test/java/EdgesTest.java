import java.util.ArrayList;
import java.util.List;
import java.util.function.Consumer;

/**
 * Every call with every choice of numbers at their edges, in states at their edges, on ShootDown and on Model: the
 * answers are the same, and so is what both tell afterwards.
 */
public final class EdgesTest {
    private static final List<Call> AFTERWARDS = afterwards();

    private EdgesTest() {
    }

    public static void main(String[] args) {
        List<Call> calls = Edges.calls();
        Edges.states().forEach((state, script) -> inState(state, calls, script));
        Due.finish();
    }

    private static void inState(String state, List<Call> calls, Consumer<Face> script) {
        for (Call call : calls) {
            Subject x = new Subject();
            Model model = new Model();
            script.accept(x);
            script.accept(model);
            String what = state + ", " + call.text();
            Due.due(what, call.of(x), call.of(model));
            compare(what, x, model);
        }
    }

    private static void compare(String what, Face x, Face model) {
        for (Call call : AFTERWARDS) {
            Due.due(what + ", then " + call.text(), call.of(x), call.of(model));
        }
    }

    private static List<Call> afterwards() {
        List<Call> calls = new ArrayList<>(List.of(Call.digest(), Call.seen(), Call.how()));
        for (int n = 0; n < 13; n++) {
            calls.add(Call.count(n));
        }
        for (int c = 0; c < 4; c++) {
            calls.add(Call.underWay(c));
        }
        for (int page = 0; page < 2; page++) {
            calls.add(Call.danger(0, page));
            calls.add(Call.history(0, page, 2));
        }
        return calls;
    }
}
