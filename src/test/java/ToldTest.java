/** Promises 19 to 24. */
public final class ToldTest {
    private static final int NONE = ShootDown.NONE;

    private ToldTest() {
    }

    public static void main(String[] args) {
        promise19Core();
        promise20History();
        promise20HistoryKeepsTwenty();
        promise21Seen();
        promise22Danger();
        promise22DangerByAnyCore();
        promise23Count();
        promise24Digest();
        promise24DigestOfMuch();
        Due.finish();
    }

    private static void promise19Core() {
        Subject x = Subject.ofCores(3);
        x.map(0, 0, 1, true);
        x.map(2, 0, 1, true);
        x.map(2, 1, 1, true);
        x.look(1, 0, false);
        x.enter(1, 2);
        x.enter(2, 2);
        x.look(1, 0, false);
        x.look(1, 1, false);
        x.unmap(2, 2, 1);
        x.unmap(0, 0, 0);
        int[][] want = {{0, 1, 0, 0, 1, 0, 0}, {2, 1, 3, 1, 0, 0, 0}, {2, 1, 0, 0, 0, 0, 1}};
        for (int c = 0; c < 3; c++) {
            for (int what = 0; what < 7; what++) {
                Due.due("core(" + c + ", " + what + ")", x.core(c, what), want[c][what]);
            }
        }
        x.sleep(1);
        Due.due("asleep", x.core(1, 1), 0);
        Due.due("its space", x.core(1, 0), 2);
        Due.due("its notes", x.core(1, 2), 2);
    }

    private static void promise20History() {
        Subject x = new Subject();
        x.rounds(0, 5);
        x.map(1, 3, 30, true);
        x.remap(0, 1, 3, 31, false);
        x.unmap(1, 1, 3);
        x.map(1, 3, 32, true);
        x.clear(0, 1);
        int[] times = {0, 6, 7, 8, 9, 10};
        int[] entries = {NONE, 286, 31, NONE, 288, NONE};
        for (int k = 0; k < 6; k++) {
            Due.due("history(1, 3, " + k + ")", x.history(1, 3, k), times[k]);
            Due.due("as it was", x.seen(), entries[k]);
        }
        Due.due("no more", x.history(1, 3, 6), NONE);
        Due.due("another page", x.history(1, 2, 1), NONE);
        Due.due("no time goes", x.count(1), 10);
    }

    private static void promise20HistoryKeepsTwenty() {
        Subject x = Subject.ofCores(1);
        x.map(2, 15, 0, false);
        x.map(2, 14, 77, false);
        for (int i = 1; i < 19; i++) {
            x.remap(0, 2, 15, i, false);
        }
        Due.due("twenty are kept, of 0 the first", x.history(2, 15, 0), 0);
        Due.due("twenty are kept, the last", x.history(2, 15, 19), 20);
        Due.due("as it was", x.seen(), 18);
        x.remap(0, 2, 15, 19, false);
        x.remap(0, 2, 15, 20, true);
        for (int k = 1; k < 20; k++) {
            Due.due("from the third on", x.history(2, 15, k), k + 3);
            Due.due("as it was", x.seen(), k < 19 ? k + 1 : 276);
        }
        Due.due("the eldest kept", x.history(2, 15, 0), 3);
        Due.due("as it was", x.seen(), 1);
        Due.due("twenty and no more", x.history(2, 15, 20), NONE);
        Due.due("its neighbour's is its own", x.history(2, 14, 1), 2);
        Due.due("as it was", x.seen(), 77);
    }

    private static void promise21Seen() {
        Subject x = new Subject();
        Due.due("at first", x.seen(), 0);
        x.map(0, 0, 5, true);
        Due.due("nothing seen", x.seen(), 0);
        x.history(0, 0, 7);
        Due.due("none there", x.seen(), 0);
        x.history(0, 0, 0);
        Due.due("NONE then", x.seen(), NONE);
        x.history(0, 0, 1);
        Due.due("so then", x.seen(), 261);
        x.history(0, 0, 2);
        Due.due("stays", x.seen(), 261);
        x.history(3, 0, 0);
        Due.due("stays when refused", x.seen(), 261);
        x.unmap(0, 0, 0);
        Due.due("stays as entries change", x.seen(), 261);
        Due.due("no time goes", x.count(1), 2);
    }

    private static void promise22Danger() {
        Subject x = new Subject();
        x.map(0, 0, 5, true);
        x.map(0, 1, 6, true);
        x.look(1, 0, false);
        x.look(1, 1, false);
        Due.due("as it is", x.danger(0, 0), 0);
        x.unmap(0, 0, 0);
        Due.due("stale, awake, there", x.danger(0, 0), 1);
        Due.due("the neighbour is not", x.danger(0, 1), 0);
        Due.due("nor the page elsewhere", x.danger(1, 0), 0);
        x.map(0, 0, 5, true);
        Due.due("the same again", x.danger(0, 0), 0);
        x.take(1);
        x.look(1, 0, false);
        x.sleep(1);
        x.unmap(0, 0, 0);
        Due.due("asleep", x.danger(0, 0), 0);
        x.wake(1);
        Due.due("told as it wakes", x.danger(0, 0), 0);
    }

    private static void promise22DangerByAnyCore() {
        Subject x = Subject.ofCores(4);
        x.map(0, 7, 5, true);
        x.look(2, 7, false);
        x.look(3, 7, false);
        x.enter(2, 1);
        x.unmap(0, 0, 7);
        Due.due("one is there", x.danger(0, 7), 1);
        x.take(3);
        Due.due("the other is elsewhere", x.danger(0, 7), 0);
        Due.due("with its stale note", x.note(2, 0, 5), 1);
        x.enter(2, 0);
        Due.due("told as it comes", x.danger(0, 7), 0);
        x.map(0, 7, 6, true);
        x.look(0, 7, false);
        x.unmap(3, 0, 7);
        Due.due("core 0 as well", x.danger(0, 7), 1);
    }

    private static void promise23Count() {
        Subject x = Subject.ofCores(3);
        x.map(0, 0, 1, false);
        x.map(1, 0, 1, false);
        x.look(1, 0, false);
        x.look(1, 0, false);
        x.look(1, 5, false);
        x.look(2, 0, false);
        x.look(2, 0, true);
        x.look(2, 0, false);
        x.remap(0, 0, 0, 2, false);
        x.look(1, 0, false);
        x.take(2);
        x.sleep(1);
        x.unmap(0, 0, 0);
        x.wake(1);
        x.take(2);
        x.unmap(1, 1, 0);
        x.map(0, 0, 1, false);
        x.look(1, 0, false);
        x.sleep(1);
        x.unmap(0, 0, 0);
        int[] before = {3, 20, 4, 3, 2, 1, 4, 2, 3, 0, 3, 1, 0};
        told("ahead of the last calls", x, before);
        x.take(2);
        x.take(2);
        x.wake(1);
        int[] after = {3, 23, 4, 4, 2, 1, 4, 2, 4, 1, 3, 1, 0};
        told("in the end", x, after);
    }

    private static void told(String when, Subject x, int[] want) {
        for (int what = 0; what < 13; what++) {
            Due.due(when + ": count(" + what + ")", x.count(what), want[what]);
        }
    }

    private static void promise24Digest() {
        Subject x = new Subject();
        Due.due("of a new one", x.digest(), digestAsTold(x));
        Due.due("as the shared tests tell it", x.digest(), -1072430327771968707L);
        long before = x.digest();
        x.take(0);
        Due.due("time is the last", x.digest(), before + 1);
        x.history(0, 0, 0);
        Due.due("seen is not in it", x.digest(), before + 1);
    }

    private static void promise24DigestOfMuch() {
        Subject x = Subject.ofCores(4);
        for (int page = 0; page < 16; page++) {
            x.map(page % 3, page, 16 * page, page % 2 == 0);
            Due.due("with entries", x.digest(), digestAsTold(x));
        }
        for (int c = 0; c < 4; c++) {
            for (int page = 0; page < 16; page++) {
                x.look(c, page, false);
            }
            Due.due("with notes", x.digest(), digestAsTold(x));
        }
        x.unmap(0, 0, 0);
        x.remap(1, 0, 15, 3, true);
        x.enter(3, 2);
        x.clear(2, 2);
        Due.due("with shoots", x.digest(), digestAsTold(x));
        x.rounds(0, 8);
        x.sleep(1);
        Due.due("with all done", x.digest(), digestAsTold(x));
    }

    private static long digestAsTold(Subject told) {
        Subject x = told.copy();
        long h = 67;
        for (int s = 0; s < 3; s++) {
            for (int page = 0; page < 16; page++) {
                h = 31 * h + x.entry(s, page);
            }
        }
        for (int c = 0; c < x.count(0); c++) {
            for (int what = 0; what <= 6; what++) {
                h = 31 * h + x.core(c, what);
            }
            for (int k = 0; k < x.core(c, 2); k++) {
                for (int what = 0; what <= 5; what++) {
                    h = 31 * h + x.note(c, k, what);
                }
            }
        }
        for (int k = 0; k < x.count(2); k++) {
            for (int what = 0; what <= 7; what++) {
                h = 31 * h + x.shoot(k, what);
            }
        }
        return 31 * h + x.count(1);
    }
}
