/**
 * Each refusal of each call, by the promises' numbers; which one comes first where several hold; and that the call
 * changes nothing then (see Due.refused). Numbers far beyond those that are allowed are tried by NumbersTest.
 */
public final class RefusalsTest {
    private static final int NONE = ShootDown.NONE;
    private static final int UNKNOWN = ShootDown.UNKNOWN;
    private static final int OUTSIDE = ShootDown.OUTSIDE;
    private static final int STATE = ShootDown.STATE;
    private static final int FULL = ShootDown.FULL;
    private static final int FAULT = ShootDown.FAULT;

    private RefusalsTest() {
    }

    public static void main(String[] args) {
        promise2Cores();
        promise3Map();
        promise4Entry();
        promise5Enter();
        promise6Sleep();
        promise7Wake();
        promise8Look();
        promise9HowIsLeftByRefusals();
        promises10And11Notes();
        promise12Unmap();
        promise13Remap();
        promise14Clear();
        promises12To14Full();
        promise15Take();
        promise16Rounds();
        promise17Shoot();
        promises18And19Cores();
        promises20To23Told();
        notRefused();
        Due.finish();
    }

    /**
     * Of 4 cores, 0 has a shoot under way, of which 1 has the call, 2 sleeps and 3 is in space 1. Page 0 of space 0
     * is NONE, page 1 not, and of space 2 all are. Each core but 3 has a note of page 1, core 1 a stale one of page 0.
     */
    private static Subject busy() {
        Subject x = Subject.ofCores(4);
        x.map(0, 0, 10, true);
        x.map(0, 1, 11, false);
        x.map(1, 15, 12, true);
        for (int c = 0; c < 3; c++) {
            x.look(c, 1, false);
        }
        x.look(1, 0, false);
        x.sleep(2);
        x.enter(3, 1);
        x.unmap(0, 0, 0);
        x.history(0, 0, 1);
        return x;
    }

    /** As busy() of 3 cores, and with no shoot left to begin: core 0 has the last under way, core 2 none. */
    private static Subject full() {
        Subject x = Subject.ofCores(3);
        x.sleep(1);
        for (int i = 0; i < 39; i++) {
            x.map(1, 15, i, true);
            x.unmap(2, 1, 15);
        }
        x.map(0, 0, 10, true);
        x.map(0, 1, 11, true);
        x.map(1, 15, 12, true);
        x.look(2, 1, false);
        Due.due("the fortieth", x.unmap(0, 0, 0), 39);
        return x;
    }

    private static void promise2Cores() {
        Subject x = busy();
        Due.refused("cores(0)", x, y -> y.cores(0), OUTSIDE);
        Due.refused("cores(5)", x, y -> y.cores(5), OUTSIDE);
        Due.refused("cores(-1)", full(), y -> y.cores(-1), OUTSIDE);
    }

    private static void promise3Map() {
        Subject x = busy();
        Due.refused("space", x, y -> y.map(3, 0, 0, true), UNKNOWN);
        Due.refused("page", x, y -> y.map(0, 16, 0, true), UNKNOWN);
        Due.refused("space and page", x, y -> y.map(-1, -1, 0, true), UNKNOWN);
        Due.refused("frame", x, y -> y.map(0, 0, 256, true), OUTSIDE);
        Due.refused("not NONE", x, y -> y.map(0, 1, 0, true), STATE);
        Due.refused("not NONE, the same", x, y -> y.map(0, 1, 11, false), STATE);
        Due.refused("space ahead of frame", x, y -> y.map(3, 0, 256, true), UNKNOWN);
        Due.refused("page ahead of frame", x, y -> y.map(0, 16, -1, true), UNKNOWN);
        Due.refused("frame ahead of state", x, y -> y.map(0, 1, 256, true), OUTSIDE);
        Due.refused("frame ahead of state", x, y -> y.map(0, 1, -1, false), OUTSIDE);
        Due.due("then it may", x.map(0, 0, 0, true), 1);
    }

    private static void promise4Entry() {
        Subject x = busy();
        Due.refused("space", x, y -> y.entry(3, 0), UNKNOWN);
        Due.refused("page", x, y -> y.entry(0, 16), UNKNOWN);
        Due.refused("space and page", x, y -> y.entry(-1, -1), UNKNOWN);
    }

    private static void promise5Enter() {
        Subject x = busy();
        Due.refused("core", x, y -> y.enter(4, 1), UNKNOWN);
        Due.refused("space", x, y -> y.enter(1, 3), UNKNOWN);
        Due.refused("core and space", x, y -> y.enter(-1, -1), UNKNOWN);
        Due.refused("asleep", x, y -> y.enter(2, 1), STATE);
        Due.refused("asleep, and has it", x, y -> y.enter(2, 0), STATE);
        Due.refused("under way", x, y -> y.enter(0, 1), STATE);
        Due.refused("under way, and has it", x, y -> y.enter(0, 0), STATE);
        Due.refused("has it", x, y -> y.enter(1, 0), STATE);
        Due.refused("has it, which is not the first", x, y -> y.enter(3, 1), STATE);
        Due.refused("space ahead of sleep", x, y -> y.enter(2, 3), UNKNOWN);
        Due.refused("space ahead of one under way", x, y -> y.enter(0, -1), UNKNOWN);
        Due.due("a call in its queue is none", x.enter(1, 1), 0);
        Due.due("then core 0 may", x.enter(0, 1), 0);
    }

    private static void promise6Sleep() {
        Subject x = busy();
        Due.refused("core", x, y -> y.sleep(4), UNKNOWN);
        Due.refused("asleep", x, y -> y.sleep(2), STATE);
        Due.refused("under way", x, y -> y.sleep(0), STATE);
        Due.due("a call in its queue is none", x.sleep(1), 1);
        Due.due("then core 0 may", x.sleep(0), 0);
    }

    private static void promise7Wake() {
        Subject x = busy();
        Due.refused("core", x, y -> y.wake(4), UNKNOWN);
        Due.refused("awake", x, y -> y.wake(1), STATE);
        Due.refused("awake, with one under way", x, y -> y.wake(0), STATE);
        Due.refused("awake, elsewhere", x, y -> y.wake(3), STATE);
        Due.due("asleep", x.wake(2), 1);
        Due.refused("awake by now", x, y -> y.wake(2), STATE);
    }

    private static void promise8Look() {
        Subject x = busy();
        Due.refused("core", x, y -> y.look(4, 0, false), UNKNOWN);
        Due.refused("page", x, y -> y.look(1, 16, false), UNKNOWN);
        Due.refused("core and page", x, y -> y.look(-1, -1, true), UNKNOWN);
        Due.refused("asleep", x, y -> y.look(2, 1, false), STATE);
        Due.refused("asleep, to write: the note that does not do stays", x, y -> y.look(2, 1, true), STATE);
        Due.refused("asleep, no entry: no fault", x, y -> y.look(2, 0, false), STATE);
        Due.refused("page ahead of sleep", x, y -> y.look(2, 16, false), UNKNOWN);
        Due.refused("page ahead of sleep", x, y -> y.look(2, -1, true), UNKNOWN);
        Due.due("with one under way it may", x.look(0, 1, false), 11);
    }

    private static void promise9HowIsLeftByRefusals() {
        Subject x = busy();
        x.look(1, 0, false);
        Due.due("a hit by a stale note", x.how(), 2);
        x.look(2, 1, false);
        Due.due("asleep", x.how(), 2);
        x.look(4, 0, false);
        Due.due("no such core", x.how(), 2);
        x.look(0, 16, false);
        Due.due("no such page", x.how(), 2);
        Subject fresh = new Subject();
        fresh.sleep(0);
        fresh.look(0, 0, false);
        fresh.look(-1, 0, false);
        fresh.look(1, -1, false);
        Due.due("none yet but refusals", fresh.how(), 0);
    }

    private static void promises10And11Notes() {
        Subject x = busy();
        Due.refused("note: core", x, y -> y.note(4, 0, 0), UNKNOWN);
        Due.refused("note: a core without any", x, y -> y.note(3, 0, 0), UNKNOWN);
        Due.refused("note: the next", x, y -> y.note(1, 2, 0), UNKNOWN);
        Due.refused("note: what", x, y -> y.note(1, 1, 6), OUTSIDE);
        Due.refused("note: core ahead of what", x, y -> y.note(4, 0, 6), UNKNOWN);
        Due.refused("note: the next ahead of what", x, y -> y.note(1, 2, -1), UNKNOWN);
        Due.refused("note: core and note ahead of what", x, y -> y.note(-1, -1, -1), UNKNOWN);
        Due.due("note: one that sleeps has its own", x.note(2, 0, 1), 1);
        Due.refused("wasSo: core", x, y -> y.wasSo(4, 0), UNKNOWN);
        Due.refused("wasSo: a core without any", x, y -> y.wasSo(3, 0), UNKNOWN);
        Due.refused("wasSo: the next", x, y -> y.wasSo(1, 2), UNKNOWN);
        Due.refused("wasSo: core and note", x, y -> y.wasSo(-1, -1), UNKNOWN);
        Due.due("wasSo: one that sleeps has its own", x.wasSo(2, 0), 1);
    }

    private static void promise12Unmap() {
        Subject x = busy();
        Due.refused("core", x, y -> y.unmap(4, 0, 1), UNKNOWN);
        Due.refused("space", x, y -> y.unmap(1, 3, 1), UNKNOWN);
        Due.refused("page", x, y -> y.unmap(1, 0, 16), UNKNOWN);
        Due.refused("all three", x, y -> y.unmap(-1, -1, -1), UNKNOWN);
        Due.refused("asleep", x, y -> y.unmap(2, 0, 1), STATE);
        Due.refused("under way", x, y -> y.unmap(0, 0, 1), STATE);
        Due.refused("under way, in another space", x, y -> y.unmap(0, 1, 15), STATE);
        Due.refused("NONE", x, y -> y.unmap(1, 0, 0), STATE);
        Due.refused("NONE, never mapped", x, y -> y.unmap(1, 2, 15), STATE);
        Due.refused("space ahead of sleep", x, y -> y.unmap(2, 3, 1), UNKNOWN);
        Due.refused("page ahead of sleep", x, y -> y.unmap(2, 0, 16), UNKNOWN);
        Due.refused("page ahead of one under way", x, y -> y.unmap(0, 0, -1), UNKNOWN);
        Due.due("with a call in its queue it may", x.unmap(1, 0, 1), 1);
    }

    private static void promise13Remap() {
        Subject x = busy();
        Due.refused("core", x, y -> y.remap(4, 0, 1, 0, true), UNKNOWN);
        Due.refused("space", x, y -> y.remap(1, 3, 1, 0, true), UNKNOWN);
        Due.refused("page", x, y -> y.remap(1, 0, 16, 0, true), UNKNOWN);
        Due.refused("frame", x, y -> y.remap(1, 0, 1, 256, true), OUTSIDE);
        Due.refused("asleep", x, y -> y.remap(2, 0, 1, 0, true), STATE);
        Due.refused("under way", x, y -> y.remap(0, 0, 1, 0, true), STATE);
        Due.refused("NONE", x, y -> y.remap(1, 0, 0, 0, true), STATE);
        Due.refused("core ahead of frame", x, y -> y.remap(4, 0, 1, 256, true), UNKNOWN);
        Due.refused("space ahead of frame", x, y -> y.remap(1, 3, 1, 256, true), UNKNOWN);
        Due.refused("page ahead of frame", x, y -> y.remap(1, 0, 16, -1, true), UNKNOWN);
        Due.refused("page ahead of sleep", x, y -> y.remap(2, 0, 16, 0, true), UNKNOWN);
        Due.refused("space ahead of one under way", x, y -> y.remap(0, 3, 0, 0, true), UNKNOWN);
        Due.refused("frame ahead of sleep", x, y -> y.remap(2, 0, 1, 256, true), OUTSIDE);
        Due.refused("frame ahead of one under way", x, y -> y.remap(0, 0, 1, -1, true), OUTSIDE);
        Due.refused("frame ahead of NONE", x, y -> y.remap(1, 0, 0, 256, false), OUTSIDE);
        Due.due("with a call in its queue it may", x.remap(1, 0, 1, 0, true), 1);
    }

    private static void promise14Clear() {
        Subject x = busy();
        Due.refused("core", x, y -> y.clear(4, 0), UNKNOWN);
        Due.refused("space", x, y -> y.clear(1, 3), UNKNOWN);
        Due.refused("core and space", x, y -> y.clear(-1, -1), UNKNOWN);
        Due.refused("asleep", x, y -> y.clear(2, 0), STATE);
        Due.refused("under way", x, y -> y.clear(0, 0), STATE);
        Due.refused("all are NONE", x, y -> y.clear(1, 2), STATE);
        Due.refused("space ahead of sleep", x, y -> y.clear(2, 3), UNKNOWN);
        Due.refused("space ahead of one under way", x, y -> y.clear(0, -1), UNKNOWN);
        Due.due("one page that is not NONE is enough", x.clear(1, 0), 1);
        Subject last = busy();
        Due.due("the last page too, from elsewhere", last.clear(1, 1), 1);
    }

    private static void promises12To14Full() {
        Subject x = full();
        Due.refused("unmap: full", x, y -> y.unmap(2, 0, 1), FULL);
        Due.refused("remap: full", x, y -> y.remap(2, 0, 1, 0, true), FULL);
        Due.refused("clear: full", x, y -> y.clear(2, 0), FULL);
        Due.refused("clear: full, in another space", x, y -> y.clear(2, 1), FULL);
        for (int c = 0; c < 2; c++) {
            int core = c;
            String why = c == 0 ? "one under way ahead of full" : "sleep ahead of full";
            Due.refused("unmap: " + why, x, y -> y.unmap(core, 0, 1), STATE);
            Due.refused("remap: " + why, x, y -> y.remap(core, 0, 1, 0, true), STATE);
            Due.refused("clear: " + why, x, y -> y.clear(core, 0), STATE);
        }
        Due.refused("unmap: NONE ahead of full", x, y -> y.unmap(2, 0, 0), STATE);
        Due.refused("remap: NONE ahead of full", x, y -> y.remap(2, 0, 0, 0, true), STATE);
        Due.refused("clear: all are NONE ahead of full", x, y -> y.clear(2, 2), STATE);
        Due.refused("remap: frame ahead of full", x, y -> y.remap(2, 0, 1, 256, true), OUTSIDE);
        Due.refused("unmap: core ahead of full", x, y -> y.unmap(3, 0, 1), UNKNOWN);
        Due.refused("unmap: page ahead of full", x, y -> y.unmap(2, 0, 16), UNKNOWN);
        Due.refused("remap: space ahead of full", x, y -> y.remap(2, 3, 1, 256, true), UNKNOWN);
        Due.refused("clear: space ahead of full", x, y -> y.clear(2, -1), UNKNOWN);
        Due.due("the fortieth goes on", x.take(2), 39);
        Due.due("and is done", x.count(3), 40);
        Due.refused("done, and full still", x, y -> y.unmap(0, 0, 1), FULL);
    }

    private static void promise15Take() {
        Subject x = busy();
        Due.refused("core", x, y -> y.take(4), UNKNOWN);
        Due.refused("asleep", x, y -> y.take(2), STATE);
        Due.due("with one under way it may", x.take(0), NONE);
        Due.due("elsewhere it may", x.take(3), NONE);
    }

    private static void promise16Rounds() {
        Subject x = busy();
        Due.refused("core", x, y -> y.rounds(4, 1), UNKNOWN);
        Due.refused("no turns", x, y -> y.rounds(0, 0), OUTSIDE);
        Due.refused("61 turns", x, y -> y.rounds(0, 61), OUTSIDE);
        Due.refused("core ahead of no turns", x, y -> y.rounds(4, 0), UNKNOWN);
        Due.refused("core ahead of 61 turns", x, y -> y.rounds(-1, 61), UNKNOWN);
        Due.refused("of a core asleep: turns", x, y -> y.rounds(2, 0), OUTSIDE);
        Due.due("a core asleep may be the first", x.rounds(2, 1), 0);
    }

    private static void promise17Shoot() {
        Subject x = busy();
        Due.refused("shoot", x, y -> y.shoot(1, 0), UNKNOWN);
        Due.refused("shoot -1", x, y -> y.shoot(-1, 0), UNKNOWN);
        Due.refused("what", x, y -> y.shoot(0, 12), OUTSIDE);
        Due.refused("what -1", x, y -> y.shoot(0, -1), OUTSIDE);
        Due.refused("shoot ahead of what", x, y -> y.shoot(1, 12), UNKNOWN);
        Due.refused("shoot ahead of what", x, y -> y.shoot(-1, -1), UNKNOWN);
    }

    private static void promises18And19Cores() {
        Subject x = busy();
        Due.refused("underWay: core", x, y -> y.underWay(4), UNKNOWN);
        Due.refused("underWay: core -1", x, y -> y.underWay(-1), UNKNOWN);
        Due.refused("core: core", x, y -> y.core(4, 0), UNKNOWN);
        Due.refused("core: what", x, y -> y.core(0, 7), OUTSIDE);
        Due.refused("core: what -1", x, y -> y.core(0, -1), OUTSIDE);
        Due.refused("core: core ahead of what", x, y -> y.core(4, 7), UNKNOWN);
        Due.refused("core: core ahead of what", x, y -> y.core(-1, -1), UNKNOWN);
    }

    private static void promises20To23Told() {
        Subject x = busy();
        Due.refused("history: space", x, y -> y.history(3, 0, 0), UNKNOWN);
        Due.refused("history: page", x, y -> y.history(0, 16, 0), UNKNOWN);
        Due.refused("history: space and page", x, y -> y.history(-1, -1, 0), UNKNOWN);
        Due.refused("history: space, and no k-th", x, y -> y.history(3, 0, 20), UNKNOWN);
        Due.refused("history: page, and no k-th", x, y -> y.history(0, -1, -1), UNKNOWN);
        Due.refused("history: no k-th", x, y -> y.history(0, 0, 3), NONE);
        Due.due("seen is as it was", x.seen(), 266);
        Due.refused("danger: space", x, y -> y.danger(3, 0), UNKNOWN);
        Due.refused("danger: page", x, y -> y.danger(0, 16), UNKNOWN);
        Due.refused("danger: space and page", x, y -> y.danger(-1, -1), UNKNOWN);
        Due.refused("count: what", x, y -> y.count(13), OUTSIDE);
        Due.refused("count: what -1", x, y -> y.count(-1), OUTSIDE);
    }

    /** FAULT and NONE are answers: the calls that give them were not refused, and TIME is one more. */
    private static void notRefused() {
        Subject x = busy();
        int time = x.count(1);
        Due.due("a fault", x.look(0, 0, false), FAULT);
        Due.due("takes time", x.count(1), time + 1);
        Due.due("is counted", x.count(7), 1);
        Due.due("is how it went", x.how(), 4);
        Due.due("no call to take", x.take(3), NONE);
        Due.due("takes time", x.count(1), time + 2);
        Due.due("no call to take in turns", x.rounds(2, 2), 0);
        Due.due("takes time", x.count(1), time + 4);
    }
}
