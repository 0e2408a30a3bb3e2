/** Promises 12 to 18. */
public final class ShootsTest {
    private static final int NONE = ShootDown.NONE;
    private static final int UNKNOWN = ShootDown.UNKNOWN;
    private static final int OUTSIDE = ShootDown.OUTSIDE;
    private static final int STATE = ShootDown.STATE;
    private static final int FULL = ShootDown.FULL;
    private static final int[] WILD = {-1, Integer.MIN_VALUE, Integer.MAX_VALUE};

    private ShootsTest() {
    }

    public static void main(String[] args) {
        promise12UnmapCallsTheOthers();
        promise12UnmapForgetsItsOwn();
        promise12UnmapWhenBehind();
        promise12UnmapElsewhere();
        promise12UnmapRefusals();
        promise12UnmapFull();
        promise13Remap();
        promise13RemapToTheSame();
        promise13RemapRefusals();
        promise14Clear();
        promise14ClearForgetsOfThatSpace();
        promise14ClearRefusals();
        promise15Take();
        promise15TakeKeepsTheGreaterGeneration();
        promise15TakeRefusals();
        promise16Rounds();
        promise16RoundsAmongSleepers();
        promise16RoundsRefusals();
        promise17Shoot();
        promise17ShootRefusals();
        promise18UnderWay();
        Due.finish();
    }

    private static ShootDown mapped(int cores, int pages) {
        ShootDown x = new ShootDown();
        x.cores(cores);
        for (int page = 0; page < pages; page++) {
            x.map(0, page, page, true);
        }
        return x;
    }

    private static void promise12UnmapCallsTheOthers() {
        ShootDown x = mapped(4, 3);
        x.sleep(2);
        x.enter(3, 1);
        Due.due("unmap(0, 0, 1)", x.unmap(0, 0, 1), 0);
        Due.due("entry", x.entry(0, 1), NONE);
        Due.due("its neighbour", x.entry(0, 2), 258);
        Due.due("generation of the space", x.count(10), 1);
        Due.due("of no other", x.count(11) + x.count(12), 0);
        Due.due("own generation", x.core(0, 4), 1);
        Due.due("called", x.core(1, 3), 1);
        Due.due("behind until it takes it", x.core(1, 4), 0);
        Due.due("itself not", x.core(0, 3), 0);
        Due.due("asleep not", x.core(2, 3), 0);
        Due.due("elsewhere not", x.core(3, 3), 0);
        Due.due("waits for one", x.shoot(0, 7), 1);
        Due.due("time", x.count(1), 6);
        Due.due("from this time on", x.history(0, 1, 2), 6);
        Due.due("the next number", x.unmap(3, 0, 2), 1);
        Due.due("behind the queue", x.core(1, 3), 2);
        Due.due("its own call", x.core(0, 3), 1);
    }

    private static void promise12UnmapForgetsItsOwn() {
        ShootDown x = mapped(1, 4);
        x.map(1, 1, 50, true);
        x.enter(0, 1);
        x.look(0, 1, false);
        x.enter(0, 0);
        for (int page = 0; page < 3; page++) {
            x.look(0, page, false);
        }
        x.unmap(0, 0, 1);
        Due.due("one of four", x.core(0, 2), 3);
        Due.due("same page elsewhere stays", x.note(0, 0, 0), 1);
        Due.due("the others stay in order", x.note(0, 1, 1) * 16 + x.note(0, 2, 1), 2);
        Due.due("not counted as waking", x.count(9), 0);
        Due.due("nor as a call", x.count(8), 0);
        Due.due("alone: done at once", x.shoot(0, 5), 1);
        Due.due("at this time", x.shoot(0, 6), x.count(1));
        Due.due("nothing under way", x.underWay(0), NONE);
    }

    private static void promise12UnmapWhenBehind() {
        ShootDown x = mapped(2, 4);
        for (int page = 0; page < 3; page++) {
            x.look(1, page, false);
        }
        x.unmap(0, 0, 3);
        Due.due("behind, with a call", x.core(1, 4), 0);
        x.unmap(1, 0, 0);
        Due.due("all go", x.core(1, 2), 0);
        Due.due("the new generation", x.core(1, 4), 2);
        Due.due("its call is still there", x.core(1, 3), 1);
        Due.due("not counted as waking", x.count(9), 0);
        Due.due("and it takes it", x.take(1), 0);
        Due.due("and keeps its generation", x.core(1, 4), 2);
    }

    private static void promise12UnmapElsewhere() {
        ShootDown x = mapped(2, 4);
        x.look(1, 0, false);
        x.look(1, 1, false);
        x.enter(1, 1);
        x.map(1, 0, 9, true);
        x.look(1, 0, false);
        Due.due("of any space", x.unmap(1, 0, 2), 0);
        Due.due("not behind: its other notes stay", x.core(1, 2), 3);
        x.take(0);
        x.unmap(0, 0, 3);
        Due.due("begins behind", x.unmap(1, 0, 0), 2);
        Due.due("all of that space go", x.core(1, 2), 1);
        Due.due("that of its own stays", x.note(1, 0, 0), 1);
        Due.due("generation there", x.core(1, 4), 3);
        Due.due("coming back forgets none", x.take(0) == 2 ? x.enter(1, 0) : -9, 0);
    }

    private static void promise12UnmapRefusals() {
        ShootDown x = mapped(3, 3);
        Due.refused("it is NONE", x, y -> y.unmap(0, 0, 3), STATE);
        Due.refused("core 3", x, y -> y.unmap(3, 0, 0), UNKNOWN);
        Due.refused("space 3", x, y -> y.unmap(0, 3, 0), UNKNOWN);
        Due.refused("page 16", x, y -> y.unmap(0, 0, 16), UNKNOWN);
        for (int n : WILD) {
            Due.refused("core " + n, x, y -> y.unmap(n, 0, 0), UNKNOWN);
            Due.refused("space " + n, x, y -> y.unmap(0, n, 0), UNKNOWN);
            Due.refused("page " + n, x, y -> y.unmap(0, 0, n), UNKNOWN);
        }
        x.sleep(2);
        Due.refused("asleep", x, y -> y.unmap(2, 0, 0), STATE);
        Due.refused("unknown ahead of state", x, y -> y.unmap(2, 0, 16), UNKNOWN);
        x.unmap(0, 0, 0);
        Due.refused("under way", x, y -> y.unmap(0, 0, 1), STATE);
        x.take(1);
        Due.due("done, so it may", x.unmap(0, 0, 1), 1);
    }

    private static void promise12UnmapFull() {
        ShootDown x = new ShootDown();
        x.cores(1);
        for (int i = 0; i < 40; i++) {
            x.map(0, 0, i, true);
            Due.due("shoot " + i, x.unmap(0, 0, 0), i);
        }
        Due.due("forty", x.count(2), 40);
        Due.due("all done", x.count(3), 40);
        Due.refused("state ahead of full", x, y -> y.unmap(0, 0, 0), STATE);
        Due.refused("state ahead of full, remap", x, y -> y.remap(0, 0, 0, 1, true), STATE);
        Due.refused("state ahead of full, clear", x, y -> y.clear(0, 0), STATE);
        x.map(0, 0, 1, true);
        Due.refused("full", x, y -> y.unmap(0, 0, 0), FULL);
        Due.refused("full, remap", x, y -> y.remap(0, 0, 0, 1, true), FULL);
        Due.refused("full, clear", x, y -> y.clear(0, 0), FULL);
        Due.refused("outside ahead of full", x, y -> y.remap(0, 0, 0, 256, true), OUTSIDE);
        Due.refused("unknown ahead of full", x, y -> y.unmap(1, 0, 0), UNKNOWN);
        Due.due("the last", x.shoot(39, 3), 40);
        Due.refused("no more", x, y -> y.shoot(40, 0), UNKNOWN);
    }

    private static void promise13Remap() {
        ShootDown x = mapped(2, 2);
        x.look(0, 0, false);
        x.look(0, 1, false);
        x.look(1, 0, false);
        Due.due("remap(0, 0, 0, 255, false)", x.remap(0, 0, 0, 255, false), 0);
        Due.due("entry", x.entry(0, 0), 255);
        Due.due("its neighbour", x.entry(0, 1), 257);
        Due.due("own note of it goes", x.core(0, 2) * 16 + x.note(0, 0, 1), 17);
        Due.due("called", x.core(1, 3), 1);
        Due.due("page", x.shoot(0, 2), 0);
        Due.due("goes by what was", x.look(1, 0, true), 0);
        x.take(1);
        Due.due("then not", x.look(1, 0, false), 255);
        Due.due("writable alone", x.remap(1, 0, 0, 255, true), 1);
        Due.due("entry", x.entry(0, 0), 511);
        Due.due("history", x.history(0, 0, 3), 10);
        Due.due("as it was", x.seen(), 511);
        Due.due("frame 0", x.take(0) == 1 ? x.remap(1, 0, 0, 0, false) : -9, 2);
        Due.due("entry", x.entry(0, 0), 0);
    }

    /** The document refuses no frame that is there already: it is a shoot, and an entry of the history. */
    private static void promise13RemapToTheSame() {
        ShootDown x = mapped(2, 1);
        x.look(1, 0, false);
        Due.due("a shoot", x.remap(0, 0, 0, 0, true), 0);
        Due.due("a call", x.core(1, 3), 1);
        Due.due("not stale", x.note(1, 0, 5), 0);
        Due.due("history", x.history(0, 0, 2), 3);
        x.take(1);
        Due.due("forgotten", x.core(1, 2), 0);
    }

    private static void promise13RemapRefusals() {
        ShootDown x = mapped(3, 3);
        Due.refused("it is NONE", x, y -> y.remap(0, 0, 3, 1, true), STATE);
        Due.refused("outside ahead of state", x, y -> y.remap(0, 0, 3, 256, true), OUTSIDE);
        Due.refused("frame -1", x, y -> y.remap(0, 0, 0, -1, true), OUTSIDE);
        Due.refused("core 3", x, y -> y.remap(3, 0, 0, 256, true), UNKNOWN);
        Due.refused("space 3", x, y -> y.remap(0, 3, 0, 256, true), UNKNOWN);
        Due.refused("page 16", x, y -> y.remap(0, 0, 16, 256, true), UNKNOWN);
        for (int n : WILD) {
            Due.refused("core " + n, x, y -> y.remap(n, 0, 0, 1, true), UNKNOWN);
            Due.refused("space " + n, x, y -> y.remap(0, n, 0, 1, true), UNKNOWN);
            Due.refused("page " + n, x, y -> y.remap(0, 0, n, 1, true), UNKNOWN);
            Due.refused("frame " + n, x, y -> y.remap(0, 0, 0, n, true), OUTSIDE);
        }
        x.sleep(2);
        Due.refused("asleep", x, y -> y.remap(2, 0, 0, 1, true), STATE);
        Due.refused("outside ahead of sleep", x, y -> y.remap(2, 0, 0, 256, true), OUTSIDE);
        x.remap(0, 0, 0, 7, true);
        Due.refused("under way", x, y -> y.remap(0, 0, 1, 1, true), STATE);
    }

    private static void promise14Clear() {
        ShootDown x = mapped(3, 4);
        x.map(1, 0, 9, true);
        for (int page = 0; page < 4; page++) {
            x.look(0, page, false);
            x.look(1, page, false);
        }
        Due.due("clear(0, 0)", x.clear(0, 0), 0);
        for (int page = 0; page < 16; page++) {
            Due.due("entry", x.entry(0, page), NONE);
        }
        Due.due("no other space", x.entry(1, 0), 265);
        Due.due("of the whole space", x.shoot(0, 2), NONE);
        Due.due("one generation", x.count(10), 1);
        Due.due("own generation", x.core(0, 4), 1);
        Due.due("own notes go", x.core(0, 2), 0);
        Due.due("waits for two", x.shoot(0, 7), 2);
        Due.due("history of what was mapped", x.history(0, 3, 2), x.count(1));
        Due.due("of what was not", x.history(0, 4, 1), NONE);
        Due.due("one call for all", x.core(1, 3), 1);
        Due.due("stale until then", x.look(1, 2, true), 2);
        Due.due("takes it", x.take(1), 0);
        Due.due("all notes go", x.core(1, 2), 0);
        Due.due("calls, not coming", x.count(8) * 16 + x.count(9), 16);
    }

    private static void promise14ClearForgetsOfThatSpace() {
        ShootDown x = mapped(2, 2);
        x.map(2, 5, 55, true);
        x.look(1, 0, false);
        x.look(0, 0, false);
        x.enter(1, 2);
        x.look(1, 5, false);
        Due.due("of any space", x.clear(1, 0), 0);
        Due.due("its notes of that go", x.core(1, 2), 1);
        Due.due("those of its own stay", x.note(1, 0, 0), 2);
        Due.due("generation there", x.core(1, 4) * 16 + x.core(1, 6), 16);
        Due.due("who is there is called", x.core(0, 3), 1);
        Due.due("danger for it", x.danger(0, 0), 1);
        x.take(0);
        x.enter(0, 1);
        Due.due("nobody there: done at once", x.clear(0, 2) == 1 ? x.shoot(1, 5) : -9, 0);
        x.take(1);
        Due.due("and done as it is answered", x.shoot(1, 6), x.count(1));
        x.map(0, 1, 1, true);
        Due.due("nobody there at all", x.clear(0, 0) == 2 ? x.shoot(2, 5) : -9, 1);
    }

    private static void promise14ClearRefusals() {
        ShootDown x = mapped(3, 1);
        Due.refused("all are NONE", x, y -> y.clear(0, 1), STATE);
        Due.refused("core 3", x, y -> y.clear(3, 0), UNKNOWN);
        Due.refused("space 3", x, y -> y.clear(0, 3), UNKNOWN);
        for (int n : WILD) {
            Due.refused("core " + n, x, y -> y.clear(n, 0), UNKNOWN);
            Due.refused("space " + n, x, y -> y.clear(0, n), UNKNOWN);
        }
        x.sleep(2);
        Due.refused("asleep", x, y -> y.clear(2, 0), STATE);
        Due.refused("unknown ahead of state", x, y -> y.clear(2, 3), UNKNOWN);
        x.map(1, 15, 1, true);
        x.unmap(0, 0, 0);
        Due.refused("under way", x, y -> y.clear(0, 1), STATE);
        x.take(1);
        Due.due("the last page alone is enough", x.clear(0, 1), 1);
    }

    private static void promise15Take() {
        ShootDown x = mapped(3, 4);
        for (int page = 0; page < 4; page++) {
            x.look(2, page, false);
        }
        x.unmap(0, 0, 1);
        x.remap(1, 0, 2, 9, true);
        Due.due("the first", x.take(2), 0);
        Due.due("its note goes", x.core(2, 2), 3);
        Due.due("and no other", x.note(2, 1, 1), 2);
        Due.due("its generation", x.core(2, 4), 1);
        Due.due("not waited for any more", x.shoot(0, 10), 0);
        Due.due("core 1 is", x.shoot(0, 9), 1);
        Due.due("so not done", x.shoot(0, 5), 0);
        Due.due("the second", x.take(2), 1);
        Due.due("generation", x.core(2, 4), 2);
        Due.due("there is none", x.take(2), NONE);
        Due.due("which takes time as well", x.count(1), 13);
        Due.due("core 1's", x.take(1), 0);
        Due.due("done now", x.shoot(0, 5), 1);
        Due.due("at this time", x.shoot(0, 6), 14);
        Due.due("core 0 has none under way", x.underWay(0), NONE);
        Due.due("calls taken", x.count(8), 3);
        Due.due("a note that is not there", x.take(0), 1);
        Due.due("none forgotten by waking", x.count(9), 0);
    }

    private static void promise15TakeKeepsTheGreaterGeneration() {
        ShootDown x = mapped(3, 4);
        x.unmap(0, 0, 0);
        x.unmap(1, 0, 1);
        Due.due("it has its own", x.core(1, 4), 2);
        x.take(1);
        Due.due("and keeps it", x.core(1, 4), 2);
        x.take(2);
        Due.due("one by one", x.core(2, 4), 1);
        x.take(2);
        Due.due("one by one", x.core(2, 4), 2);
    }

    private static void promise15TakeRefusals() {
        ShootDown x = mapped(2, 1);
        Due.refused("core 2", x, y -> y.take(2), UNKNOWN);
        for (int n : WILD) {
            Due.refused("core " + n, x, y -> y.take(n), UNKNOWN);
        }
        x.sleep(1);
        Due.refused("asleep", x, y -> y.take(1), STATE);
        Due.due("with one under way it may", x.wake(1) == 0 && x.unmap(0, 0, 0) == 0 ? x.take(0) : -9, NONE);
    }

    private static void promise16Rounds() {
        ShootDown x = mapped(3, 3);
        x.unmap(0, 0, 0);
        x.unmap(1, 0, 1);
        x.unmap(2, 0, 2);
        Due.due("two each", x.core(0, 3) * 100 + x.core(1, 3) * 10 + x.core(2, 3), 222);
        int before = x.count(1);
        Due.due("one turn", x.rounds(2, 1), 1);
        Due.due("core 2 took it", x.core(2, 3), 1);
        Due.due("one more", x.count(1), before + 1);
        Due.due("four turns", x.rounds(1, 4), 4);
        Due.due("1, 2, 0, 1", x.core(0, 3) * 100 + x.core(1, 3) * 10 + x.core(2, 3), 100);
        Due.due("four more", x.count(1), before + 5);
        Due.due("each at its own time", x.shoot(0, 6), before + 2);
        Due.due("not done", x.shoot(2, 6), NONE);
        Due.due("sixty turns", x.rounds(0, 60), 1);
        Due.due("sixty more", x.count(1), before + 65);
        Due.due("in the first of them", x.shoot(2, 6), before + 6);
        Due.due("calls taken", x.count(8), 6);
        Due.due("none to take", x.rounds(0, 3), 0);
        Due.due("time goes", x.count(1), before + 68);
    }

    private static void promise16RoundsAmongSleepers() {
        ShootDown x = mapped(4, 2);
        x.sleep(1);
        x.unmap(0, 0, 0);
        int before = x.count(1);
        Due.due("a sleeper may begin, and has turns", x.rounds(1, 3), 2);
        Due.due("time", x.count(1), before + 3);
        Due.due("done by the third", x.shoot(0, 6), before + 3);
        Due.due("it sleeps on", x.core(1, 1), 0);
        x.cores(1);
        Due.due("one core alone", x.rounds(0, 60), 0);
        Due.due("time", x.count(1), 60);
    }

    private static void promise16RoundsRefusals() {
        ShootDown x = mapped(2, 2);
        x.unmap(0, 0, 0);
        Due.refused("no turns", x, y -> y.rounds(0, 0), OUTSIDE);
        Due.refused("61 turns", x, y -> y.rounds(0, 61), OUTSIDE);
        Due.refused("core 2", x, y -> y.rounds(2, 1), UNKNOWN);
        Due.refused("unknown ahead of outside", x, y -> y.rounds(2, 0), UNKNOWN);
        for (int n : WILD) {
            Due.refused("core " + n, x, y -> y.rounds(n, 1), UNKNOWN);
            Due.refused("turns " + n, x, y -> y.rounds(0, n), OUTSIDE);
        }
    }

    private static void promise17Shoot() {
        ShootDown x = mapped(4, 2);
        x.map(1, 9, 1, true);
        x.map(1, 15, 2, true);
        x.enter(3, 1);
        x.enter(2, 1);
        x.unmap(2, 1, 9);
        x.unmap(0, 1, 15);
        int[][] want = {{2, 1, 9, 1, 7, 0, NONE, 1, 0, 0, 0, 1}, {0, 1, 15, 2, 8, 0, NONE, 2, 0, 0, 1, 1}};
        for (int k = 0; k < 2; k++) {
            for (int what = 0; what < 12; what++) {
                Due.due("shoot(" + k + ", " + what + ")", x.shoot(k, what), want[k][what]);
            }
        }
        x.take(3);
        Due.due("done", x.shoot(0, 5), 1);
        Due.due("when", x.shoot(0, 6), 9);
        Due.due("waits for none", x.shoot(0, 7), 0);
        Due.due("not for it", x.shoot(0, 11), 0);
        Due.due("begun then as before", x.shoot(0, 4), 7);
        Due.due("generation as before", x.shoot(0, 3), 1);
        Due.due("the other is not", x.shoot(1, 5), 0);
        Due.due("done is counted", x.count(3), 1);
    }

    private static void promise17ShootRefusals() {
        ShootDown x = mapped(4, 1);
        Due.refused("none yet", x, y -> y.shoot(0, 0), UNKNOWN);
        x.unmap(0, 0, 0);
        Due.refused("no second", x, y -> y.shoot(1, 0), UNKNOWN);
        Due.refused("what 12", x, y -> y.shoot(0, 12), OUTSIDE);
        Due.refused("unknown ahead of outside", x, y -> y.shoot(1, 12), UNKNOWN);
        for (int n : WILD) {
            Due.refused("shoot " + n, x, y -> y.shoot(n, n), UNKNOWN);
            Due.refused("what " + n, x, y -> y.shoot(0, n), OUTSIDE);
        }
        x = mapped(2, 1);
        x.unmap(0, 0, 0);
        Due.due("core 1 is waited for", x.shoot(0, 9), 1);
        Due.refused("there is no core 2", x, y -> y.shoot(0, 10), OUTSIDE);
    }

    private static void promise18UnderWay() {
        ShootDown x = mapped(3, 3);
        Due.due("none", x.underWay(0), NONE);
        x.unmap(0, 0, 0);
        x.unmap(2, 0, 1);
        Due.due("core 0's", x.underWay(0), 0);
        Due.due("core 1 has none", x.underWay(1), NONE);
        Due.due("core 2's", x.underWay(2), 1);
        x.take(1);
        x.take(2);
        Due.due("answered by all", x.underWay(0), NONE);
        Due.due("not yet by all", x.underWay(2), 1);
        x.take(1);
        x.take(0);
        Due.due("answered by all", x.underWay(2), NONE);
        x.unmap(1, 0, 2);
        Due.due("the next", x.underWay(1), 2);
        Due.refused("core 3", x, y -> y.underWay(3), UNKNOWN);
        for (int n : WILD) {
            Due.refused("core " + n, x, y -> y.underWay(n), UNKNOWN);
        }
    }
}
