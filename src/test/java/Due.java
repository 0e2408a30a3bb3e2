import java.util.List;
import java.util.function.ToLongFunction;

/** What the tests share: comparing answers with those due, and telling how it went. */
final class Due {
    private static final int MOST_LINES = 50;

    private static int wrong = 0;

    private Due() {
    }

    static void due(String call, long got, long want) {
        if (got != want) {
            wrong++;
            if (wrong <= MOST_LINES) {
                System.out.println(call + " answered " + got + ", due is " + want);
            }
        }
    }

    static void due(String what, boolean holds) {
        due(what, holds ? 1 : 0, 1);
    }

    /** The call is refused as is due, and neither what the object tells nor how it goes on is another for it. */
    static void refused(String call, Subject x, ToLongFunction<Face> run, long want) {
        Subject without = x.copy();
        due(call, run.applyAsLong(x), want);
        alike(call + " changes nothing", x, without);
    }

    /** Both objects tell the same, and go on in the same way. They themselves are left as they are. */
    static void alike(String what, Subject x, Subject y) {
        List<Call> reading = Probes.reading();
        int last = reading.size() - 1;
        int next = 0;
        while (next < last) {
            int compared = compare(what, x, y, reading.subList(next, last + 1));
            if (compared < 2) {
                due(what + " can be told", compared < 0);
                return;
            }
            // The last of these is called again, so that seen() always follows the history() that it belongs to.
            next += compared - 1;
        }
        for (List<Call> calls : Probes.goingOn()) {
            if (compare(what, x, y, calls) < 0) {
                return;
            }
        }
    }

    /** Compares as many of the answers as the objects have calls left: how many; -1 where they differ. */
    private static int compare(String what, Subject x, Subject y, List<Call> calls) {
        Subject one = x.copy();
        Subject other = y.copy();
        int most = Math.min(calls.size(), Math.min(one.callsLeft(), other.callsLeft()));
        for (int i = 0; i < most; i++) {
            long got = calls.get(i).of(one);
            long want = calls.get(i).of(other);
            if (got != want) {
                due(what + ", but " + calls.get(i).text() + " then", got, want);
                return -1;
            }
        }
        return most;
    }

    static void finish() {
        System.out.println(wrong == 0 ? "all answers are as due" : wrong + " answers are not as due");
        if (wrong != 0) {
            System.exit(1);
        }
    }
}
