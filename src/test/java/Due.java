import java.util.ArrayList;
import java.util.List;
import java.util.function.ToLongFunction;

/** What the tests share: comparing answers with those due, and telling how it went. */
final class Due {
    private static int wrong = 0;

    private Due() {
    }

    static void due(String call, long got, long want) {
        if (got != want) {
            wrong++;
            System.out.println(call + " answered " + got + ", due is " + want);
        }
    }

    static void due(String what, boolean holds) {
        due(what, holds ? 1 : 0, 1);
    }

    /** The call is refused as is due, and nothing that the object tells is another afterwards. */
    static void refused(String call, ShootDown x, ToLongFunction<ShootDown> run, long want) {
        // Reading the history sets SEEN, so the first reading brings it to rest.
        allTold(x);
        List<Long> before = allTold(x);
        due(call, run.applyAsLong(x), want);
        due(call + " changes nothing", allTold(x).equals(before));
    }

    static List<Long> allTold(ShootDown x) {
        List<Long> told = new ArrayList<>();
        told.add((long) x.seen());
        told.add((long) x.how());
        told.add(x.digest());
        for (int what = 0; what < 13; what++) {
            told.add((long) x.count(what));
        }
        for (int c = 0; c < 4; c++) {
            told.add((long) x.underWay(c));
            for (int k = 0; k < 4; k++) {
                told.add((long) x.wasSo(c, k));
            }
        }
        for (int k = 0; k < x.count(2); k++) {
            for (int what = 0; what < 12; what++) {
                told.add((long) x.shoot(k, what));
            }
        }
        for (int s = 0; s < 3; s++) {
            for (int page = 0; page < 16; page++) {
                told.add((long) x.danger(s, page));
                for (int k = 0; k < 20; k++) {
                    told.add((long) x.history(s, page, k));
                    told.add((long) x.seen());
                }
            }
        }
        return told;
    }

    static void finish() {
        System.out.println(wrong == 0 ? "all answers are as due" : wrong + " answers are not as due");
        if (wrong != 0) {
            System.exit(1);
        }
    }
}
