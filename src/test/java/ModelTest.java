/** Long runs of calls on ShootDown and on Model: each answer is the same. */
public final class ModelTest {
    private static final int RUNS = 4000;
    private static final int CALLS = 512;
    private static final int DIGEST_EACH = 8;
    private static final int[] WILD = {-1, 3, 4, 7, 16, 61, 256, Integer.MIN_VALUE, Integer.MAX_VALUE, -8, 12};

    private static long state;
    private static boolean wild;
    private static int pages;

    private ModelTest() {
    }

    public static void main(String[] args) {
        for (int run = 1; run <= RUNS; run++) {
            state = run * 0x9E3779B97F4A7C15L;
            wild = run % 3 == 0;
            pages = run % 2 == 0 ? 3 : 16;
            compare(run);
        }
        Due.finish();
    }

    private static void compare(int run) {
        Subject x = new Subject();
        Model model = new Model();
        for (int i = 0; i < CALLS; i++) {
            Call call = i == 0 ? cores() : i % DIGEST_EACH == 0 ? Call.digest() : anyCall();
            long got = call.of(x);
            long want = call.of(model);
            if (got != want) {
                Due.due("run " + run + ", call " + i + ": " + call.text(), got, want);
                return;
            }
        }
    }

    /** Mostly calls that change something; cores() rarely, as it begins again. */
    private static Call anyCall() {
        int n = below(100);
        if (n < 30) {
            return Call.look(core(), page(), flag());
        }
        if (n < 42) {
            return Call.map(space(), page(), number(below(3) * 127), flag());
        }
        if (n < 60) {
            return shootCall(below(9));
        }
        if (n < 80) {
            return coreCall(below(10));
        }
        return n == 99 && below(4) == 0 ? cores() : reading(below(12));
    }

    private static Call cores() {
        return Call.cores(number(1 + below(4)));
    }

    private static Call shootCall(int kind) {
        if (kind == 0) {
            return Call.clear(core(), space());
        }
        return kind < 5 ? Call.unmap(core(), space(), page())
            : Call.remap(core(), space(), page(), number(below(4)), flag());
    }

    private static Call coreCall(int kind) {
        switch (kind) {
            case 0:
                return Call.enter(core(), space());
            case 1:
                return Call.sleep(core());
            case 2:
            case 3:
                return Call.wake(core());
            case 4:
                return Call.rounds(core(), number(1 + below(5)));
            default:
                return Call.take(core());
        }
    }

    private static Call reading(int kind) {
        switch (kind) {
            case 0:
                return Call.how();
            case 1:
                return Call.seen();
            case 2:
                return Call.history(space(), page(), number(below(22)));
            case 3:
                return Call.shoot(number(below(41)), number(below(13)));
            case 4:
                return Call.note(core(), number(below(5)), number(below(7)));
            case 5:
            case 6:
                return Call.wasSo(core(), number(below(5)));
            case 7:
                return Call.underWay(core());
            case 8:
                return Call.core(core(), number(below(8)));
            case 9:
                return Call.danger(space(), page());
            case 10:
                return Call.entry(space(), page());
            default:
                return Call.count(number(below(14)));
        }
    }

    private static int core() {
        return number(below(4));
    }

    private static int space() {
        return number(below(3) == 0 ? below(3) : 0);
    }

    private static int page() {
        return number(below(pages));
    }

    private static boolean flag() {
        return below(2) == 0;
    }

    /** The number, or now and then in wild runs one that is none of the document's. */
    private static int number(int n) {
        return wild && below(30) == 0 ? WILD[below(WILD.length)] : n;
    }

    private static int below(int n) {
        state = state * 6364136223846793005L + 1442695040888963407L;
        return (int) ((state >>> 33) % n);
    }
}
