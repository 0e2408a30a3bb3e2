/** Promises 12 to 18. */
public final class ShootsTest {
    private static final int NONE = ShootDown.NONE;

    private ShootsTest() {
    }

    public static void main(String[] args) {
        promise12UnmapCallsTheOthers();
        promise12UnmapForgetsItsOwn();
        promise12UnmapWhenBehind();
        promise12UnmapElsewhere();
        promise13Remap();
        promise14Clear();
        promise14ClearForgetsOfThatSpace();
        promise15Take();
        promise15TakeKeepsTheGreaterGeneration();
        promise16Rounds();
        promise16RoundsAmongSleepers();
        promise17Shoot();
        promise18UnderWay();
        Due.finish();
    }

    private static void promise12UnmapCallsTheOthers() {
        Subject x = Subject.mapped(4, 3);
        x.sleep(2);
        x.enter(3, 1);
        Due.due("unmap(0, 0, 1)", x.unmap(0, 0, 1), 0);
        Due.due("entry", x.entry(0, 1), NONE);
        Due.due("its neighbour", x.entry(0, 2), 258);
        Due.due("generation of the space", x.count(10), 1);
        Due.due("of no other", x.count(11) + x.count(12), 0);
        Due.due("own generation", x.core(0, 4), 1);
        Due.due("called", x.core(1, 3), 1);
        Due.due("behind until it takes it", x.core(1, 4), 0);
        Due.due("itself not", x.core(0, 3), 0);
        Due.due("asleep not", x.core(2, 3), 0);
        Due.due("elsewhere not", x.core(3, 3), 0);
        Due.due("waits for one", x.shoot(0, 7), 1);
        Due.due("time", x.count(1), 6);
        Due.due("from this time on", x.history(0, 1, 2), 6);
        Due.due("the next number", x.unmap(3, 0, 2), 1);
        Due.due("behind the queue", x.core(1, 3), 2);
        Due.due("its own call", x.core(0, 3), 1);
    }

    private static void promise12UnmapForgetsItsOwn() {
        Subject x = Subject.mapped(1, 4);
        x.map(1, 1, 50, true);
        x.enter(0, 1);
        x.look(0, 1, false);
        x.enter(0, 0);
        for (int page = 0; page < 3; page++) {
            x.look(0, page, false);
        }
        x.unmap(0, 0, 1);
        Due.due("one of four", x.core(0, 2), 3);
        Due.due("same page elsewhere stays", x.note(0, 0, 0), 1);
        Due.due("the others stay in order", x.note(0, 1, 1) * 16 + x.note(0, 2, 1), 2);
        Due.due("not counted as waking", x.count(9), 0);
        Due.due("nor as a call", x.count(8), 0);
        Due.due("alone: done at once", x.shoot(0, 5), 1);
        Due.due("at this time", x.shoot(0, 6), x.count(1));
        Due.due("nothing under way", x.underWay(0), NONE);
    }

    private static void promise12UnmapWhenBehind() {
        Subject x = Subject.mapped(2, 4);
        for (int page = 0; page < 3; page++) {
            x.look(1, page, false);
        }
        x.unmap(0, 0, 3);
        Due.due("behind, with a call", x.core(1, 4), 0);
        x.unmap(1, 0, 0);
        Due.due("all go", x.core(1, 2), 0);
        Due.due("the new generation", x.core(1, 4), 2);
        Due.due("its call is still there", x.core(1, 3), 1);
        Due.due("not counted as waking", x.count(9), 0);
        Due.due("and it takes it", x.take(1), 0);
        Due.due("and keeps its generation", x.core(1, 4), 2);
    }

    private static void promise12UnmapElsewhere() {
        Subject x = Subject.mapped(2, 4);
        x.look(1, 0, false);
        x.look(1, 1, false);
        x.enter(1, 1);
        x.map(1, 0, 9, true);
        x.look(1, 0, false);
        Due.due("of any space", x.unmap(1, 0, 2), 0);
        Due.due("not behind: its other notes stay", x.core(1, 2), 3);
        x.take(0);
        x.unmap(0, 0, 3);
        Due.due("begins behind", x.unmap(1, 0, 0), 2);
        Due.due("all of that space go", x.core(1, 2), 1);
        Due.due("that of its own stays", x.note(1, 0, 0), 1);
        Due.due("generation there", x.core(1, 4), 3);
        Due.due("coming back forgets none", x.take(0) == 2 ? x.enter(1, 0) : -9, 0);
    }

    private static void promise13Remap() {
        Subject x = Subject.mapped(2, 2);
        x.look(0, 0, false);
        x.look(0, 1, false);
        x.look(1, 0, false);
        Due.due("remap(0, 0, 0, 255, false)", x.remap(0, 0, 0, 255, false), 0);
        Due.due("entry", x.entry(0, 0), 255);
        Due.due("its neighbour", x.entry(0, 1), 257);
        Due.due("own note of it goes", x.core(0, 2) * 16 + x.note(0, 0, 1), 17);
        Due.due("called", x.core(1, 3), 1);
        Due.due("page", x.shoot(0, 2), 0);
        Due.due("goes by what was", x.look(1, 0, true), 0);
        x.take(1);
        Due.due("then not", x.look(1, 0, false), 255);
        Due.due("writable alone", x.remap(1, 0, 0, 255, true), 1);
        Due.due("entry", x.entry(0, 0), 511);
        Due.due("history", x.history(0, 0, 3), 10);
        Due.due("as it was", x.seen(), 511);
        Due.due("frame 0", x.take(0) == 1 ? x.remap(1, 0, 0, 0, false) : -9, 2);
        Due.due("entry", x.entry(0, 0), 0);
    }

    private static void promise14Clear() {
        Subject x = Subject.mapped(3, 4);
        x.map(1, 0, 9, true);
        for (int page = 0; page < 4; page++) {
            x.look(0, page, false);
            x.look(1, page, false);
        }
        Due.due("clear(0, 0)", x.clear(0, 0), 0);
        for (int page = 0; page < 16; page++) {
            Due.due("entry", x.entry(0, page), NONE);
        }
        Due.due("no other space", x.entry(1, 0), 265);
        Due.due("of the whole space", x.shoot(0, 2), NONE);
        Due.due("one generation", x.count(10), 1);
        Due.due("own generation", x.core(0, 4), 1);
        Due.due("own notes go", x.core(0, 2), 0);
        Due.due("waits for two", x.shoot(0, 7), 2);
        Due.due("history of what was mapped", x.history(0, 3, 2), x.count(1));
        Due.due("one call for all", x.core(1, 3), 1);
        Due.due("stale until then", x.look(1, 2, true), 2);
        Due.due("takes it", x.take(1), 0);
        Due.due("all notes go", x.core(1, 2), 0);
        Due.due("calls, not coming", x.count(8) * 16 + x.count(9), 16);
    }

    private static void promise14ClearForgetsOfThatSpace() {
        Subject x = Subject.mapped(2, 2);
        x.map(2, 5, 55, true);
        x.look(1, 0, false);
        x.look(0, 0, false);
        x.enter(1, 2);
        x.look(1, 5, false);
        Due.due("of any space", x.clear(1, 0), 0);
        Due.due("its notes of that go", x.core(1, 2), 1);
        Due.due("those of its own stay", x.note(1, 0, 0), 2);
        Due.due("generation there", x.core(1, 4) * 16 + x.core(1, 6), 16);
        Due.due("who is there is called", x.core(0, 3), 1);
        Due.due("danger for it", x.danger(0, 0), 1);
        x.take(0);
        x.enter(0, 1);
        Due.due("core 1 is there: not done", x.clear(0, 2) == 1 ? x.shoot(1, 5) : -9, 0);
        x.take(1);
        Due.due("and done as it is answered", x.shoot(1, 6), x.count(1));
        x.map(0, 1, 1, true);
        Due.due("nobody there at all", x.clear(0, 0) == 2 ? x.shoot(2, 5) : -9, 1);
    }

    private static void promise15Take() {
        Subject x = Subject.mapped(3, 4);
        for (int page = 0; page < 4; page++) {
            x.look(2, page, false);
        }
        x.unmap(0, 0, 1);
        x.remap(1, 0, 2, 9, true);
        Due.due("the first", x.take(2), 0);
        Due.due("its note goes", x.core(2, 2), 3);
        Due.due("and no other", x.note(2, 1, 1), 2);
        Due.due("its generation", x.core(2, 4), 1);
        Due.due("not waited for any more", x.shoot(0, 10), 0);
        Due.due("core 1 is", x.shoot(0, 9), 1);
        Due.due("so not done", x.shoot(0, 5), 0);
        Due.due("the second", x.take(2), 1);
        Due.due("generation", x.core(2, 4), 2);
        Due.due("there is none", x.take(2), NONE);
        Due.due("which takes time as well", x.count(1), 13);
        Due.due("core 1's", x.take(1), 0);
        Due.due("done now", x.shoot(0, 5), 1);
        Due.due("at this time", x.shoot(0, 6), 14);
        Due.due("core 0 has none under way", x.underWay(0), NONE);
        Due.due("calls taken", x.count(8), 3);
        Due.due("a note that is not there", x.take(0), 1);
        Due.due("none forgotten by waking", x.count(9), 0);
    }

    private static void promise15TakeKeepsTheGreaterGeneration() {
        Subject x = Subject.mapped(3, 4);
        x.unmap(0, 0, 0);
        x.unmap(1, 0, 1);
        Due.due("it has its own", x.core(1, 4), 2);
        x.take(1);
        Due.due("and keeps it", x.core(1, 4), 2);
        x.take(2);
        Due.due("one by one", x.core(2, 4), 1);
        x.take(2);
        Due.due("one by one", x.core(2, 4), 2);
    }

    private static void promise16Rounds() {
        Subject x = Subject.mapped(3, 3);
        x.unmap(0, 0, 0);
        x.unmap(1, 0, 1);
        x.unmap(2, 0, 2);
        Due.due("two each", x.core(0, 3) * 100 + x.core(1, 3) * 10 + x.core(2, 3), 222);
        int before = x.count(1);
        Due.due("one turn", x.rounds(2, 1), 1);
        Due.due("core 2 took it", x.core(2, 3), 1);
        Due.due("one more", x.count(1), before + 1);
        Due.due("four turns", x.rounds(1, 4), 4);
        Due.due("1, 2, 0, 1", x.core(0, 3) * 100 + x.core(1, 3) * 10 + x.core(2, 3), 100);
        Due.due("four more", x.count(1), before + 5);
        Due.due("each at its own time", x.shoot(0, 6), before + 2);
        Due.due("not done", x.shoot(2, 6), NONE);
        Due.due("sixty turns", x.rounds(0, 60), 1);
        Due.due("sixty more", x.count(1), before + 65);
        Due.due("in the first of them", x.shoot(2, 6), before + 6);
        Due.due("calls taken", x.count(8), 6);
        Due.due("none to take", x.rounds(0, 3), 0);
        Due.due("time goes", x.count(1), before + 68);
    }

    private static void promise16RoundsAmongSleepers() {
        Subject x = Subject.mapped(4, 2);
        x.sleep(1);
        x.unmap(0, 0, 0);
        int before = x.count(1);
        Due.due("a sleeper may begin, and has turns", x.rounds(1, 3), 2);
        Due.due("time", x.count(1), before + 3);
        Due.due("done by the third", x.shoot(0, 6), before + 3);
        Due.due("it sleeps on", x.core(1, 1), 0);
        x.cores(1);
        Due.due("one core alone", x.rounds(0, 60), 0);
        Due.due("time", x.count(1), 60);
    }

    private static void promise17Shoot() {
        Subject x = Subject.mapped(4, 2);
        x.map(1, 9, 1, true);
        x.map(1, 15, 2, true);
        x.enter(3, 1);
        x.enter(2, 1);
        x.unmap(2, 1, 9);
        x.unmap(0, 1, 15);
        int[][] want = {{2, 1, 9, 1, 7, 0, NONE, 1, 0, 0, 0, 1}, {0, 1, 15, 2, 8, 0, NONE, 2, 0, 0, 1, 1}};
        for (int k = 0; k < 2; k++) {
            for (int what = 0; what < 12; what++) {
                Due.due("shoot(" + k + ", " + what + ")", x.shoot(k, what), want[k][what]);
            }
        }
        x.take(3);
        Due.due("done", x.shoot(0, 5), 1);
        Due.due("when", x.shoot(0, 6), 9);
        Due.due("waits for none", x.shoot(0, 7), 0);
        Due.due("not for it", x.shoot(0, 11), 0);
        Due.due("begun then as before", x.shoot(0, 4), 7);
        Due.due("generation as before", x.shoot(0, 3), 1);
        Due.due("the other is not", x.shoot(1, 5), 0);
        Due.due("done is counted", x.count(3), 1);
    }

    private static void promise18UnderWay() {
        Subject x = Subject.mapped(3, 3);
        Due.due("none", x.underWay(0), NONE);
        x.unmap(0, 0, 0);
        x.unmap(2, 0, 1);
        Due.due("core 0's", x.underWay(0), 0);
        Due.due("core 1 has none", x.underWay(1), NONE);
        Due.due("core 2's", x.underWay(2), 1);
        x.take(1);
        x.take(2);
        Due.due("answered by all", x.underWay(0), NONE);
        Due.due("not yet by all", x.underWay(2), 1);
        x.take(1);
        x.take(0);
        Due.due("answered by all", x.underWay(2), NONE);
        x.unmap(1, 0, 2);
        Due.due("the next", x.underWay(1), 2);
    }
}
