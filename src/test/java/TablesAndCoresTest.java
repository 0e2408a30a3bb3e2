/** Promises 1 to 7. */
public final class TablesAndCoresTest {
    private static final int NONE = ShootDown.NONE;
    private static final int UNKNOWN = ShootDown.UNKNOWN;

    private TablesAndCoresTest() {
    }

    public static void main(String[] args) {
        promise1NewObject();
        promise2Cores();
        promise2CoresFromEachToEach();
        promise2CoresAllAsAtFirst();
        promise2CoresAfterFullHistoryAndOpenShoot();
        promise3Map();
        promise4Entry();
        promise5Enter();
        promise5EnterTakesCallsFirst();
        promise5EnterForgetsWhenBehind();
        promise6Sleep();
        promise7Wake();
        promise7WakeForgetsItsSpaceOnly();
        Due.finish();
    }

    private static void promise1NewObject() {
        asAtFirst("new", new Subject(), 2);
        Due.alike("as by cores(2)", new Subject(), Subject.ofCores(2));
    }

    private static void asAtFirst(String when, Subject told, int cores) {
        Subject x = told.copy();
        Due.due(when + ": cores", x.count(0), cores);
        for (int what = 1; what < 13; what++) {
            Due.due(when + ": count " + what, x.count(what), 0);
        }
        Due.due(when + ": seen", x.seen(), 0);
        Due.due(when + ": how", x.how(), 0);
        for (int c = 0; c < cores; c++) {
            Due.due(when + ": space", x.core(c, 0), 0);
            Due.due(when + ": awake", x.core(c, 1), 1);
            for (int what = 2; what < 7; what++) {
                Due.due(when + ": core " + what, x.core(c, what), 0);
            }
            Due.due(when + ": underWay", x.underWay(c), NONE);
        }
        for (int c = cores; c < 4; c++) {
            Due.due(when + ": no core " + c, x.core(c, 0), UNKNOWN);
        }
        for (int s = 0; s < 3; s++) {
            for (int page = 0; page < 16; page++) {
                Due.due(when + ": entry", x.entry(s, page), NONE);
                Due.due(when + ": history", x.history(s, page, 0), 0);
                Due.due(when + ": it was NONE", x.seen(), NONE);
                Due.due(when + ": history ends", x.history(s, page, 1), NONE);
            }
        }
        Due.due(when + ": no shoot", x.shoot(0, 0), UNKNOWN);
    }

    private static void promise2Cores() {
        Subject x = new Subject();
        Due.due("cores(4)", x.cores(4), 2);
        asAtFirst("cores(4)", x, 4);
        Due.due("cores(1)", x.cores(1), 4);
        asAtFirst("cores(1)", x, 1);
        Due.due("cores(3)", x.cores(3), 1);
        asAtFirst("cores(3)", x, 3);
        Due.due("cores(3) again", x.cores(3), 3);
    }

    private static void promise2CoresFromEachToEach() {
        for (int n = 1; n <= 4; n++) {
            for (int next = 1; next <= 4; next++) {
                Subject x = Subject.ofCores(n);
                Due.due("cores(" + next + ") of " + n, x.cores(next), n);
                Due.due("as many", x.count(0), next);
                Due.due("the last", x.core(next - 1, 1), 1);
                Due.due("no next one", x.core(next, 1), UNKNOWN);
            }
        }
    }

    private static void promise2CoresAllAsAtFirst() {
        Subject x = busy();
        Due.due("cores(2) of a busy object", x.cores(2), 4);
        asAtFirst("busy, cores(2)", x, 2);
        for (int n = 1; n <= 4; n++) {
            x = busy();
            x.cores(n);
            Due.alike("as a new one", x, Subject.ofCores(n));
        }
        Subject fresh = Subject.ofCores(4);
        x.map(0, 3, 5, true);
        fresh.map(0, 3, 5, true);
        x.look(1, 3, false);
        fresh.look(1, 3, false);
        x.unmap(0, 0, 3);
        fresh.unmap(0, 0, 3);
        x.rounds(2, 9);
        fresh.rounds(2, 9);
        Due.alike("and goes on as one", x, fresh);
    }

    private static void promise2CoresAfterFullHistoryAndOpenShoot() {
        Subject x = Subject.ofCores(1);
        for (int i = 0; i < 12; i++) {
            x.map(0, 0, i, true);
            x.unmap(0, 0, 0);
        }
        Due.due("the first is lost", x.history(0, 0, 0), 5);
        x.cores(2);
        Due.due("the first is there again", x.history(0, 0, 0), 0);
        x.map(0, 1, 1, true);
        x.unmap(0, 0, 1);
        Due.due("open", x.shoot(0, 7), 1);
        x.cores(2);
        x.sleep(1);
        x.map(0, 1, 1, true);
        x.unmap(0, 0, 1);
        Due.due("waits for none of before", x.shoot(0, 5), 1);
        Due.due("nor has it a call", x.wake(1) == 0 ? x.take(1) : -9, NONE);
    }

    /** Something of everything: notes, calls in queues, cores asleep and elsewhere, shoots done and not. */
    private static Subject busy() {
        Subject x = Subject.ofCores(4);
        x.map(0, 0, 1, true);
        x.map(0, 1, 2, false);
        x.map(1, 2, 3, true);
        for (int c = 0; c < 4; c++) {
            x.look(c, 0, true);
            x.look(c, 1, false);
            x.look(c, 0, false);
        }
        x.sleep(3);
        x.remap(0, 0, 0, 9, true);
        x.look(1, 0, false);
        x.look(1, 9, false);
        x.take(1);
        x.unmap(1, 0, 1);
        x.enter(2, 1);
        x.wake(3);
        x.history(0, 0, 1);
        return x;
    }

    private static void promise3Map() {
        Subject x = new Subject();
        Due.due("map(0, 0, 0, false)", x.map(0, 0, 0, false), 1);
        Due.due("its entry", x.entry(0, 0), 0);
        Due.due("map(2, 15, 255, true)", x.map(2, 15, 255, true), 1);
        Due.due("its entry", x.entry(2, 15), 511);
        Due.due("map(1, 7, 255, false)", x.map(1, 7, 255, false), 1);
        Due.due("its entry", x.entry(1, 7), 255);
        Due.due("map(1, 8, 0, true)", x.map(1, 8, 0, true), 1);
        Due.due("its entry", x.entry(1, 8), 256);
        Due.due("each counts", x.count(1), 4);
        Due.due("without a shoot", x.count(2), 0);
        Due.due("no generation", x.count(10) + x.count(11) + x.count(12), 0);
        Due.due("from its time on", x.history(2, 15, 1), 2);
        x.unmap(0, 0, 0);
        Due.due("mapped again", x.map(0, 0, 6, true), 1);
    }

    private static void promise4Entry() {
        Subject x = new Subject();
        Due.due("none yet", x.entry(2, 4), NONE);
        x.map(2, 4, 77, true);
        Due.due("writable", x.entry(2, 4), 256 + 77);
        Due.due("no other space", x.entry(1, 4), NONE);
        Due.due("no other page", x.entry(2, 5), NONE);
        x.remap(0, 2, 4, 78, false);
        Due.due("remapped", x.entry(2, 4), 78);
        x.unmap(1, 2, 4);
        Due.due("unmapped", x.entry(2, 4), NONE);
        Due.due("no time goes", x.count(1), 3);
    }

    private static void promise5Enter() {
        Subject x = new Subject();
        Due.due("enter(1, 2)", x.enter(1, 2), 0);
        Due.due("its space", x.core(1, 0), 2);
        Due.due("the other's space", x.core(0, 0), 0);
        Due.due("time", x.count(1), 1);
        x.map(2, 3, 30, true);
        Due.due("looks there", x.look(1, 3, false), 30);
        Due.due("the other does not", x.look(0, 3, false), ShootDown.FAULT);
        Due.due("enter(1, 0)", x.enter(1, 0), 0);
        Due.due("keeps its note of elsewhere", x.core(1, 2), 1);
        Due.due("enter(1, 2) again", x.enter(1, 2), 0);
        x.look(1, 3, false);
        Due.due("hit after coming back, not behind", x.how(), 1);
    }

    private static void promise5EnterTakesCallsFirst() {
        Subject x = Subject.ofCores(3);
        x.map(0, 0, 1, true);
        x.map(0, 1, 2, true);
        x.look(2, 0, false);
        x.look(2, 1, false);
        x.unmap(0, 0, 0);
        x.unmap(1, 0, 1);
        Due.due("calls wait", x.core(2, 3), 2);
        x.take(0);
        x.take(1);
        Due.due("notes of calls are not those of coming", x.enter(2, 1), 0);
        Due.due("no calls left", x.core(2, 3), 0);
        Due.due("notes went with the calls", x.core(2, 2), 0);
        Due.due("calls taken", x.count(8), 4);
        Due.due("none forgotten by coming", x.count(9), 0);
        Due.due("first is done at this time", x.shoot(0, 6), x.count(1));
        Due.due("second is done at this time", x.shoot(1, 6), x.count(1));
        Due.due("up to the second", x.core(2, 4), 2);
    }

    private static void promise5EnterForgetsWhenBehind() {
        Subject x = new Subject();
        for (int page = 0; page < 4; page++) {
            x.map(0, page, page, true);
        }
        x.map(1, 5, 50, true);
        x.look(1, 0, false);
        x.look(1, 1, false);
        x.enter(1, 1);
        x.look(1, 5, false);
        x.unmap(0, 0, 3);
        Due.due("not called elsewhere", x.core(1, 3), 0);
        Due.due("keeps notes until it comes", x.core(1, 2), 3);
        Due.due("all of that space go", x.enter(1, 0), 2);
        Due.due("the other space's stays", x.note(1, 0, 0), 1);
        Due.due("one note is left", x.core(1, 2), 1);
        Due.due("has its generation", x.core(1, 4), 1);
        Due.due("counted", x.count(9), 2);
        x.look(1, 1, false);
        x.enter(1, 2);
        Due.due("not behind, none go", x.enter(1, 0), 0);
        Due.due("still counted so", x.count(9), 2);
    }

    private static void promise6Sleep() {
        Subject x = Subject.ofCores(4);
        for (int page = 0; page < 3; page++) {
            x.map(0, page, page, true);
            x.look(3, page, false);
        }
        x.unmap(0, 0, 0);
        x.unmap(1, 0, 1);
        Due.due("two calls", x.core(3, 3), 2);
        Due.due("sleep(3)", x.sleep(3), 2);
        Due.due("asleep", x.core(3, 1), 0);
        Due.due("queue", x.core(3, 3), 0);
        Due.due("the third note stays", x.core(3, 2), 1);
        Due.due("calls taken", x.count(8), 2);
        Due.due("none forgotten by waking", x.count(9), 0);
        Due.due("time", x.count(1), 9);
        Due.due("not waited for", x.shoot(0, 11) + x.shoot(1, 11), 0);
        x.rounds(0, 4);
        int k = x.unmap(2, 0, 2);
        Due.due("not called while asleep", x.core(3, 3), 0);
        Due.due("nor waited for", x.shoot(k, 11), 0);
        Due.due("the others are", x.shoot(k, 7), 2);
        Due.due("no calls: 0", x.take(0) == k && x.take(1) == k ? x.sleep(0) : -9, 0);
    }

    private static void promise7Wake() {
        Subject x = new Subject();
        for (int page = 0; page < 4; page++) {
            x.map(0, page, page, true);
            x.look(1, page, false);
        }
        x.sleep(1);
        Due.due("nothing happened", x.wake(1), 0);
        Due.due("keeps its notes", x.core(1, 2), 4);
        Due.due("awake", x.core(1, 1), 1);
        x.sleep(1);
        x.unmap(0, 0, 2);
        Due.due("done at once", x.shoot(0, 6), x.count(1));
        Due.due("behind as it wakes", x.wake(1), 4);
        Due.due("no notes", x.core(1, 2), 0);
        Due.due("generation", x.core(1, 4), 1);
        Due.due("counted", x.count(9), 4);
        Due.due("time", x.count(1), 13);
    }

    private static void promise7WakeForgetsItsSpaceOnly() {
        Subject x = new Subject();
        x.map(0, 0, 1, true);
        x.map(1, 0, 2, true);
        x.map(1, 1, 3, true);
        x.look(1, 0, false);
        x.enter(1, 1);
        x.look(1, 0, false);
        x.sleep(1);
        x.unmap(0, 0, 0);
        Due.due("behind elsewhere only", x.wake(1), 0);
        Due.due("keeps both", x.core(1, 2), 2);
        Due.due("generation elsewhere stays", x.core(1, 4), 0);
        x.sleep(1);
        x.unmap(0, 1, 1);
        Due.due("behind here", x.wake(1), 1);
        Due.due("keeps the other", x.note(1, 0, 0), 0);
        Due.due("generation here", x.core(1, 5), 1);
        Due.due("generation elsewhere still", x.core(1, 4), 0);
    }
}
