import java.math.BigInteger;

/** Promise 24: the digest, of few and of many numbers, against one that is reckoned without any wrapping. */
public final class DigestTest {
    private static final BigInteger FACTOR = BigInteger.valueOf(31);

    private DigestTest() {
    }

    public static void main(String[] args) {
        ofANewOne();
        ofEachNumberOfCores();
        ofEntries();
        ofNotes();
        ofShoots();
        ofForty();
        ofTime();
        asLongsThatWrap();
        ofNothingElse();
        Due.finish();
    }

    private static void asTold(String what, Subject x) {
        Due.due("digest " + what, x.copy().digest(), reckoned(x.copy()));
    }

    private static long reckoned(Subject x) {
        BigInteger h = BigInteger.valueOf(67);
        for (int i = 0; i < 48; i++) {
            h = with(h, x.entry(i / 16, i % 16));
        }
        int cores = x.count(0);
        for (int c = 0; c < cores; c++) {
            for (int what = 0; what < 7; what++) {
                h = with(h, x.core(c, what));
            }
            int notes = x.core(c, 2);
            for (int i = 0; i < 6 * notes; i++) {
                h = with(h, x.note(c, i / 6, i % 6));
            }
        }
        int shoots = x.count(2);
        for (int i = 0; i < 8 * shoots; i++) {
            // An object has 512 calls, and forty shoots have 320 numbers.
            h = with(h, x.shoot(i / 8, i % 8));
        }
        return with(h, x.count(1)).longValue();
    }

    private static BigInteger with(BigInteger h, int number) {
        return h.multiply(FACTOR).add(BigInteger.valueOf(number));
    }

    private static void ofANewOne() {
        Due.due("of a new one", new Subject().digest(), -1072430327771968707L);
        asTold("of a new one", new Subject());
    }

    private static void ofEachNumberOfCores() {
        long[] before = new long[5];
        for (int n = 1; n <= 4; n++) {
            Subject x = Subject.ofCores(n);
            asTold("of " + n + " cores", x);
            before[n] = x.digest();
            Due.due("another than with one core less", before[n] != before[n - 1]);
        }
        Subject again = new Subject();
        again.cores(2);
        Due.due("of two again", again.digest(), new Subject().digest());
    }

    private static void ofEntries() {
        for (int i = 0; i < 48; i++) {
            Subject x = new Subject();
            x.map(i / 16, i % 16, 0, false);
            asTold("of entry " + i, x);
            x.remap(0, i / 16, i % 16, 255, true);
            asTold("of entry " + i + ", the greatest", x);
        }
    }

    private static void ofNotes() {
        for (int n = 1; n <= 4; n++) {
            Subject x = Subject.ofCores(n);
            for (int page = 0; page < 5; page++) {
                x.map(0, page, 51 * page, page % 2 == 0);
                for (int c = 0; c < n; c++) {
                    x.look(c, page, false);
                    asTold("of notes", x);
                }
            }
            x.unmap(0, 0, 3);
            asTold("of stale notes", x);
        }
    }

    private static void ofShoots() {
        Subject x = Subject.ofCores(4);
        for (int s = 0; s < 3; s++) {
            x.map(s, 15, s, true);
            x.map(s, 0, s, true);
        }
        x.unmap(0, 0, 15);
        asTold("of one that waits for three", x);
        x.take(1);
        asTold("of one that waits for two", x);
        x.sleep(2);
        asTold("of one that waits for one", x);
        x.enter(3, 2);
        asTold("of one that is done", x);
        x.clear(1, 2);
        asTold("of a whole space", x);
        x.remap(0, 1, 0, 255, false);
        asTold("of one without anybody to wait for", x);
    }

    private static void ofForty() {
        Subject x = Subject.ofCores(1);
        x.map(0, 0, 0, true);
        for (int k = 0; k < 40; k++) {
            x.remap(0, 0, 0, k, true);
        }
        asTold("of forty", x);
        x.clear(0, 0);
        asTold("of a refusal more", x);
    }

    private static void ofTime() {
        Subject x = new Subject();
        long atFirst = x.digest();
        for (int time = 1; time <= 100; time++) {
            x.take(0);
            Due.due("at " + time, x.digest(), atFirst + time);
        }
    }

    /** Less than the least long and more than the greatest: both signs come up, and no part is cut to an int. */
    private static void asLongsThatWrap() {
        Subject x = new Subject();
        int negative = 0;
        int wide = 0;
        for (int frame = 0; frame < 64; frame++) {
            x.map(frame / 32, frame / 2 % 16, frame, true);
            long digest = x.digest();
            negative += digest < 0 ? 1 : 0;
            wide += digest != (int) digest ? 1 : 0;
            asTold("that wraps", x);
        }
        Due.due("some are negative", negative > 0);
        Due.due("some are not", negative < 64);
        Due.due("nearly all are wider than an int", wide > 60);
    }

    /** Neither how, SEEN, the history, the counts of looks nor who has which call is among its numbers. */
    private static void ofNothingElse() {
        Subject x = new Subject();
        x.map(0, 0, 5, true);
        x.look(0, 0, false);
        x.remap(1, 0, 0, 6, true);
        x.look(0, 0, false);
        long before = x.digest();
        x.history(0, 0, 1);
        x.look(0, 0, true);
        x.wasSo(0, 0);
        Due.due("a hit and a reading: TIME alone", x.digest(), before + 1);
        x.look(0, 9, false);
        Due.due("a fault: TIME alone", x.digest(), before + 2);
        x.wake(0);
        Due.due("a refusal: nothing", x.digest(), before + 2);
    }
}
