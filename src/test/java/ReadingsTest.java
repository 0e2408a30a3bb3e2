/** Where the document leaves a choice: how it was read. NOTES.md tells why; Model reads it in the same way. */
public final class ReadingsTest {
    private static final int NONE = ShootDown.NONE;
    private static final int OUTSIDE = ShootDown.OUTSIDE;

    private ReadingsTest() {
    }

    public static void main(String[] args) {
        remapToTheSameIsAShoot();
        clearAddsNoHistoryToWhatWasNone();
        whetherACoreIsWaitedForWhereThereIsNone();
        coresBeginsAllAgain();
        Due.finish();
    }

    private static Subject noted() {
        Subject x = new Subject();
        x.map(0, 0, 7, true);
        x.look(1, 0, false);
        return x;
    }

    /** "It becomes another FRAME": none is refused for being there already. */
    private static void remapToTheSameIsAShoot() {
        Subject x = noted();
        Due.due("a shoot", x.remap(0, 0, 0, 7, true), 0);
        Due.due("a generation", x.count(10), 1);
        Due.due("a call", x.core(1, 3), 1);
        Due.due("not stale", x.note(1, 0, 5), 0);
        Due.due("history", x.history(0, 0, 2), 3);
        x.take(1);
        Due.due("forgotten", x.core(1, 2), 0);
    }

    /** "The TIME from which on it was so": a page that is NONE already was so from an earlier one on. */
    private static void clearAddsNoHistoryToWhatWasNone() {
        Subject x = noted();
        x.clear(0, 0);
        Due.due("it was mapped", x.history(0, 0, 2), 3);
        Due.due("it was not", x.history(0, 1, 1), NONE);
        Due.due("so from 0 on", x.history(0, 1, 0), 0);
    }

    /** "8 + c whether CORE c is": as many c as there are cores; of the other numbers none is as told. */
    private static void whetherACoreIsWaitedForWhereThereIsNone() {
        for (int n = 1; n <= 4; n++) {
            Subject x = Subject.ofCores(n);
            x.map(0, 0, 7, true);
            x.unmap(0, 0, 0);
            for (int c = 0; c < 4; c++) {
                int due = c >= n ? OUTSIDE : c == 0 ? 0 : 1;
                Due.due("core " + c + " of " + n, x.shoot(0, 8 + c), due);
            }
        }
    }

    /** "All as at first": what count(), how() and seen() tell as well. */
    private static void coresBeginsAllAgain() {
        Subject x = noted();
        x.look(1, 0, false);
        x.sleep(1);
        x.remap(0, 0, 0, 8, true);
        x.wake(1);
        x.look(1, 0, false);
        x.unmap(0, 0, 0);
        x.look(1, 0, false);
        x.take(1);
        x.look(1, 0, false);
        x.history(0, 0, 1);
        for (int what = 0; what < 11; what++) {
            Due.due("count " + what + " is not as at first", x.count(what) > 0);
        }
        Due.due("cores(2)", x.cores(2), 2);
        for (int what = 1; what < 13; what++) {
            Due.due("count " + what, x.count(what), 0);
        }
        Due.due("how", x.how(), 0);
        Due.due("seen", x.seen(), 0);
    }
}
