/**
 * Each number that a call takes, by the promises' numbers: the least and the greatest that the document allows and all
 * between them are taken, and those beyond, on both sides and as far as an int goes, are refused and change nothing.
 */
public final class NumbersTest {
    private static final int NONE = ShootDown.NONE;
    private static final int UNKNOWN = ShootDown.UNKNOWN;
    private static final int OUTSIDE = ShootDown.OUTSIDE;
    private static final int STATE = ShootDown.STATE;
    private static final int FULL = ShootDown.FULL;

    private static final int[] FAR = {Integer.MIN_VALUE, Integer.MIN_VALUE + 1, -65536, -256, 256, 65536,
        Integer.MAX_VALUE - 15, Integer.MAX_VALUE - 1, Integer.MAX_VALUE};

    /** A call with one of its numbers left open. */
    private interface Call {
        long with(Face x, int n);
    }

    private NumbersTest() {
    }

    public static void main(String[] args) {
        numbersOfCores();
        spaces();
        pages();
        frames();
        for (int n = 1; n <= 4; n++) {
            coresOf(n);
        }
        notes();
        turns();
        shoots();
        whatIsTold();
        kthOfHistory();
        Due.finish();
    }

    /** All from least to most are taken; the next ones beyond and those far off are answered as told. */
    private static void numbers(String what, Subject x, int least, int most, long beyond, Call call) {
        for (int n = least; n <= most; n++) {
            long got = call.with(x.copy(), n);
            boolean refused = got == UNKNOWN || got == OUTSIDE || got == STATE || got == FULL;
            Due.due(what + " " + n + " is taken, not answered with " + got, !refused);
        }
        beyond(what, x, least - 1, beyond, call);
        beyond(what, x, most + 1, beyond, call);
        for (int n : FAR) {
            if (n < least || n > most) {
                beyond(what, x, n, beyond, call);
            }
        }
    }

    private static void beyond(String what, Subject x, int n, long want, Call call) {
        Due.refused(what + " " + n, x.copy(), y -> call.with(y, n), want);
    }

    /** Page 0 to 15 of each space mapped, core 0 in space 0 with four notes, core 1 in space 1 with none. */
    private static Subject mapped() {
        Subject x = new Subject();
        for (int s = 0; s < 3; s++) {
            for (int page = 0; page < 16; page++) {
                x.map(s, page, 16 * s + page, true);
            }
        }
        for (int page = 0; page < 4; page++) {
            x.look(0, page, false);
        }
        x.enter(1, 1);
        return x;
    }

    private static void numbersOfCores() {
        numbers("promise 2: cores", new Subject(), 1, 4, OUTSIDE, (x, n) -> x.cores(n));
        numbers("promise 2: cores, of a busy object", mapped(), 1, 4, OUTSIDE, (x, n) -> x.cores(n));
    }

    private static void spaces() {
        Subject fresh = new Subject();
        numbers("promise 3: map, space", fresh, 0, 2, UNKNOWN, (x, s) -> x.map(s, 0, 0, true));
        numbers("promise 4: entry, space", fresh, 0, 2, UNKNOWN, (x, s) -> x.entry(s, 0));
        Subject some = mapped();
        Due.due("promise 5: enter, space 0", some.copy().enter(1, 0), 0);
        Due.due("promise 5: enter, space 1", some.copy().enter(0, 1), 0);
        Due.due("promise 5: enter, space 2", some.copy().enter(0, 2), 0);
        beyond("promise 5: enter, space", some, -1, UNKNOWN, (x, s) -> x.enter(0, s));
        beyond("promise 5: enter, space", some, 3, UNKNOWN, (x, s) -> x.enter(0, s));
        for (int far : FAR) {
            beyond("promise 5: enter, space", some, far, UNKNOWN, (x, s) -> x.enter(0, s));
        }
        numbers("promise 12: unmap, space", some, 0, 2, UNKNOWN, (x, s) -> x.unmap(0, s, 0));
        numbers("promise 13: remap, space", some, 0, 2, UNKNOWN, (x, s) -> x.remap(0, s, 0, 0, true));
        numbers("promise 14: clear, space", some, 0, 2, UNKNOWN, (x, s) -> x.clear(0, s));
        numbers("promise 20: history, space", some, 0, 2, UNKNOWN, (x, s) -> x.history(s, 0, 0));
        numbers("promise 22: danger, space", some, 0, 2, UNKNOWN, (x, s) -> x.danger(s, 0));
    }

    private static void pages() {
        Subject fresh = new Subject();
        numbers("promise 3: map, page", fresh, 0, 15, UNKNOWN, (x, page) -> x.map(0, page, 0, true));
        numbers("promise 4: entry, page", fresh, 0, 15, UNKNOWN, (x, page) -> x.entry(0, page));
        Subject some = mapped();
        numbers("promise 8: look, page", some, 0, 15, UNKNOWN, (x, page) -> x.look(0, page, false));
        numbers("promise 8: look to write, page", some, 0, 15, UNKNOWN, (x, page) -> x.look(0, page, true));
        numbers("promise 12: unmap, page", some, 0, 15, UNKNOWN, (x, page) -> x.unmap(0, 2, page));
        numbers("promise 13: remap, page", some, 0, 15, UNKNOWN, (x, page) -> x.remap(0, 2, page, 0, true));
        numbers("promise 20: history, page", some, 0, 15, UNKNOWN, (x, page) -> x.history(2, page, 0));
        numbers("promise 22: danger, page", some, 0, 15, UNKNOWN, (x, page) -> x.danger(2, page));
    }

    private static void frames() {
        Subject fresh = new Subject();
        numbers("promise 3: map, frame", fresh, 0, 255, OUTSIDE, (x, frame) -> x.map(2, 15, frame, true));
        numbers("promise 3: map, frame", fresh, 0, 255, OUTSIDE, (x, frame) -> x.map(0, 0, frame, false));
        Subject some = mapped();
        numbers("promise 13: remap, frame", some, 0, 255, OUTSIDE, (x, frame) -> x.remap(0, 2, 15, frame, true));
        numbers("promise 13: remap, frame", some, 0, 255, OUTSIDE, (x, frame) -> x.remap(1, 0, 0, frame, false));
        for (int frame = 0; frame < 256; frame++) {
            each(frame, false);
            each(frame, true);
        }
    }

    /** A frame is told as it was given, and 256 more where it is writable, wherever it comes to. */
    private static void each(int frame, boolean writable) {
        Subject x = new Subject();
        String what = "frame " + frame + (writable ? ", writable" : "");
        int entry = writable ? frame + 256 : frame;
        x.map(1, 15, frame, writable);
        Due.due("promise 3: " + what, x.entry(1, 15), entry);
        x.enter(0, 1);
        Due.due("promise 8: " + what, x.look(0, 15, false), frame);
        Due.due("promise 8: by its note, " + what, x.look(0, 15, writable), frame);
        Due.due("promise 10: " + what, x.note(0, 0, 2), frame);
        Due.due("promise 10: " + what, x.note(0, 0, 3), writable ? 1 : 0);
        Due.due("promise 20: " + what, x.history(1, 15, 1), 1);
        Due.due("promise 21: " + what, x.seen(), entry);
        x.remap(1, 1, 15, 255 - frame, writable);
        Due.due("promise 13: " + what, x.entry(1, 15), writable ? 511 - frame : 255 - frame);
    }

    private static void coresOf(int n) {
        Subject x = Subject.ofCores(n);
        x.map(0, 0, 1, true);
        x.map(0, 1, 1, true);
        String of = " of " + n;
        int last = n - 1;
        numbers("promise 5: enter, core" + of, x, 0, last, UNKNOWN, (y, c) -> y.enter(c, 1));
        numbers("promise 6: sleep, core" + of, x, 0, last, UNKNOWN, (y, c) -> y.sleep(c));
        numbers("promise 8: look, core" + of, x, 0, last, UNKNOWN, (y, c) -> y.look(c, 0, true));
        numbers("promise 12: unmap, core" + of, x, 0, last, UNKNOWN, (y, c) -> y.unmap(c, 0, 0));
        numbers("promise 13: remap, core" + of, x, 0, last, UNKNOWN, (y, c) -> y.remap(c, 0, 0, 2, true));
        numbers("promise 14: clear, core" + of, x, 0, last, UNKNOWN, (y, c) -> y.clear(c, 0));
        numbers("promise 15: take, core" + of, x, 0, last, UNKNOWN, (y, c) -> y.take(c));
        numbers("promise 16: rounds, core" + of, x, 0, last, UNKNOWN, (y, c) -> y.rounds(c, 1));
        numbers("promise 18: underWay, core" + of, x, 0, last, UNKNOWN, (y, c) -> y.underWay(c));
        numbers("promise 19: core, core" + of, x, 0, last, UNKNOWN, (y, c) -> y.core(c, 0));
        for (int c = 0; c < n; c++) {
            x.look(c, 0, false);
        }
        numbers("promise 10: note, core" + of, x, 0, last, UNKNOWN, (y, c) -> y.note(c, 0, 0));
        numbers("promise 11: wasSo, core" + of, x, 0, last, UNKNOWN, (y, c) -> y.wasSo(c, 0));
        for (int c = 0; c < n; c++) {
            x.sleep(c);
        }
        numbers("promise 7: wake, core" + of, x, 0, last, UNKNOWN, (y, c) -> y.wake(c));
    }

    /** A core's notes are numbered from 0 on, as many as it has: none to four. */
    private static void notes() {
        for (int held = 0; held <= 4; held++) {
            Subject x = new Subject();
            for (int page = 0; page < held; page++) {
                x.map(0, page, page, true);
                x.look(1, page, false);
            }
            String of = " of " + held;
            numbers("promise 10: note" + of, x, 0, held - 1, UNKNOWN, (y, k) -> y.note(1, k, 0));
            numbers("promise 11: wasSo" + of, x, 0, held - 1, UNKNOWN, (y, k) -> y.wasSo(1, k));
        }
    }

    private static void turns() {
        Subject x = new Subject();
        numbers("promise 16: rounds, turns", x, 1, 60, OUTSIDE, (y, n) -> y.rounds(0, n));
        Subject waiting = mapped();
        waiting.unmap(0, 1, 3);
        numbers("promise 16: rounds, turns", waiting, 1, 60, OUTSIDE, (y, n) -> y.rounds(1, n));
    }

    /** Shoots are numbered from 0 on, as many as were begun: none, one, and forty. */
    private static void shoots() {
        for (int begun : new int[] {0, 1, 40}) {
            Subject x = Subject.ofCores(1);
            for (int k = 0; k < begun; k++) {
                x.map(0, 0, 0, true);
                x.unmap(0, 0, 0);
            }
            numbers("promise 17: shoot of " + begun, x, 0, begun - 1, UNKNOWN, (y, k) -> y.shoot(k, 0));
        }
    }

    private static void whatIsTold() {
        Subject x = Subject.ofCores(4);
        x.map(0, 0, 0, true);
        x.look(1, 0, false);
        x.unmap(0, 0, 0);
        numbers("promise 10: note, what", x, 0, 5, OUTSIDE, (y, what) -> y.note(1, 0, what));
        numbers("promise 17: shoot, what", x, 0, 11, OUTSIDE, (y, what) -> y.shoot(0, what));
        numbers("promise 19: core, what", x, 0, 6, OUTSIDE, (y, what) -> y.core(3, what));
        numbers("promise 23: count, what", x, 0, 12, OUTSIDE, (y, what) -> y.count(what));
    }

    /** Where there is no k-th entry the answer is NONE, and SEEN stays: of a page as at first, and of a full one. */
    private static void kthOfHistory() {
        for (int entries : new int[] {1, 2, 19, 20, 21}) {
            Subject x = Subject.ofCores(1);
            x.map(1, 1, 77, true);
            x.history(1, 1, 1);
            for (int i = 1; i < entries; i++) {
                if (i % 2 == 0) {
                    x.unmap(0, 2, 15);
                } else {
                    x.map(2, 15, i, false);
                }
            }
            int kept = Math.min(entries, 20);
            numbers("promise 20: history of " + entries, x, 0, kept - 1, NONE, (y, k) -> y.history(2, 15, k));
            for (int k = 0; k < kept; k++) {
                int change = k + entries - kept;
                int since = change == 0 ? 0 : change + 1;
                Due.due("promise 20: history " + k + " of " + entries, x.history(2, 15, k), since);
            }
        }
    }
}
