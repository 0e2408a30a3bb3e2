/** How many there are at most: nothing, one less than the most, the most, and one more; what is lost then. */
public final class LimitsTest {
    private static final int NONE = ShootDown.NONE;
    private static final int UNKNOWN = ShootDown.UNKNOWN;
    private static final int STATE = ShootDown.STATE;
    private static final int FULL = ShootDown.FULL;
    private static final int FAULT = ShootDown.FAULT;

    private LimitsTest() {
    }

    public static void main(String[] args) {
        callsOfOneObject();
        entriesOfAllPages();
        notesUpToFour();
        notesOfEachCore();
        notesOfAllSpacesTogether();
        aNoteForgottenMakesRoom();
        aNoteThatDoesNotDoMakesRoom();
        historyUpToTwenty();
        historyByEachCall();
        historyAsLongAsItGets();
        historyOfEachPage();
        wasSoAtTheEdgeOfHistory();
        shootsUpToForty();
        theFortiethByEachCall();
        fortyInTurns();
        fortyAgainAfterCores();
        generationsUpToForty();
        queuesOfThree();
        leavingWithEachLengthOfQueue();
        oneCore();
        fourCores();
        Due.finish();
    }

    /** "An object is used for at most 512 calls": the last of these is still as told. */
    private static void callsOfOneObject() {
        Subject x = Subject.mapped(1, 1);
        for (int i = 0; i < 508; i++) {
            x.look(0, 0, false);
        }
        Due.due("hits", x.count(4), 507);
        Due.due("the last call", x.look(0, 0, true), 0);
        Subject faults = new Subject();
        for (int i = 0; i < 511; i++) {
            faults.look(i % 2, i % 16, false);
        }
        Due.due("faults, the last call", faults.count(7), 511);
        Subject refused = new Subject();
        for (int i = 0; i < 511; i++) {
            refused.wake(0);
        }
        Due.due("nothing but refusals, the last call", refused.count(1), 0);
    }

    private static void entriesOfAllPages() {
        Subject x = new Subject();
        for (int i = 0; i < 48; i++) {
            Due.due("map " + i, x.map(i / 16, i % 16, 47 - i, i % 2 == 0), 1);
        }
        for (int i = 0; i < 48; i++) {
            Due.due("entry " + i, x.entry(i / 16, i % 16), 47 - i + (i % 2 == 0 ? 256 : 0));
        }
        for (int s = 0; s < 3; s++) {
            Due.due("clear", x.clear(0, s), s);
            x.rounds(1, 1);
        }
        for (int i = 0; i < 48; i++) {
            Due.due("cleared " + i, x.entry(i / 16, i % 16), NONE);
        }
        for (int s = 0; s < 3; s++) {
            Due.due("nothing to clear", x.clear(0, s), STATE);
        }
    }

    /** "MEMORY: up to 4 NOTES; the eldest one is lost when a fifth is taken." */
    private static void notesUpToFour() {
        Subject x = Subject.mapped(2, 16);
        for (int page = 0; page < 16; page++) {
            int held = Math.min(page, 4);
            Due.due("notes ahead of walk " + page, x.core(0, 2), held);
            Due.due("no more than these", x.note(0, held, 1), UNKNOWN);
            x.look(0, page, false);
            int eldest = Math.max(0, page - 3);
            for (int k = 0; k <= page - eldest; k++) {
                Due.due("note " + k + " after walk " + page, x.note(0, k, 1), eldest + k);
                Due.due("its time", x.note(0, k, 4), 17 + eldest + k);
            }
        }
        Due.due("walks", x.count(6), 16);
        Due.due("none forgotten by waking or coming", x.count(9), 0);
        Due.due("one that was lost: a walk", x.look(0, 11, false), 11);
        Due.due("a walk", x.how(), 3);
        Due.due("one of the last three: a hit", x.look(0, 13, false), 13);
        Due.due("a hit", x.how(), 1);
    }

    private static void notesOfEachCore() {
        Subject x = Subject.mapped(4, 5);
        for (int c = 0; c < 4; c++) {
            for (int page = 0; page < 4; page++) {
                x.look(c, (c + page) % 5, false);
            }
        }
        x.look(3, 2, false);
        for (int c = 0; c < 4; c++) {
            Due.due("four of core " + c, x.core(c, 2), 4);
            for (int k = 0; k < 4; k++) {
                int first = c == 3 ? 4 : c;
                Due.due("note " + k + " of core " + c, x.note(c, k, 1), (first + k) % 5);
            }
        }
    }

    private static void notesOfAllSpacesTogether() {
        Subject x = Subject.ofCores(1);
        for (int s = 0; s < 3; s++) {
            x.map(s, 7, 70 + s, true);
            x.map(s, 8, 80 + s, true);
        }
        for (int s = 0; s < 3; s++) {
            x.enter(0, s);
            x.look(0, 7, false);
            x.look(0, 8, false);
        }
        Due.due("four of three spaces", x.core(0, 2), 4);
        int[] frames = {71, 81, 72, 82};
        for (int k = 0; k < 4; k++) {
            Due.due("note " + k, x.note(0, k, 2), frames[k]);
            Due.due("its space", x.note(0, k, 0), 1 + k / 2);
        }
        x.enter(0, 0);
        x.look(0, 7, false);
        Due.due("those of space 0 were lost", x.how(), 3);
    }

    private static void aNoteForgottenMakesRoom() {
        for (int gone = 0; gone < 4; gone++) {
            Subject x = Subject.mapped(1, 6);
            for (int page = 0; page < 4; page++) {
                x.look(0, page, false);
            }
            x.unmap(0, 0, gone);
            Due.due("three", x.core(0, 2), 3);
            x.look(0, 4, false);
            Due.due("four", x.core(0, 2), 4);
            for (int k = 0; k < 4; k++) {
                Due.due("note " + k + " without " + gone, x.note(0, k, 1), k < gone ? k : k + 1);
            }
            x.look(0, 5, false);
            Due.due("then the eldest is lost", x.note(0, 0, 1), gone < 2 ? 2 : 1);
        }
    }

    /** "A NOTE that is not WRITABLE does not do to write: it is forgotten, then as without one." */
    private static void aNoteThatDoesNotDoMakesRoom() {
        for (int page = 0; page < 4; page++) {
            Subject x = Subject.ofCores(2);
            for (int i = 0; i < 4; i++) {
                x.map(0, i, i, false);
                x.look(0, i, false);
            }
            Subject faulting = x.copy();
            x.remap(1, 0, page, 9, true);
            Due.due("walks", x.look(0, page, true), 9);
            Due.due("four still", x.core(0, 2), 4);
            Due.due("it is the youngest now", x.note(0, 3, 1), page);
            Due.due("the eldest is not lost", x.note(0, 0, 1), page == 0 ? 1 : 0);
            Due.due("faults", faulting.look(0, page, true), FAULT);
            Due.due("three", faulting.core(0, 2), 3);
            Due.due("the others stay", faulting.note(0, 2, 1), page == 3 ? 2 : 3);
        }
    }

    /** "The latest 20 of each PAGE are kept": as many as there are, up to 20, then without the eldest. */
    private static void historyUpToTwenty() {
        Subject x = Subject.ofCores(1);
        for (int entries = 1; entries <= 23; entries++) {
            Subject told = x.copy();
            int lost = Math.max(0, entries - 20);
            for (int k = 0; k < entries - lost; k++) {
                int change = k + lost;
                Due.due("history " + k + " of " + entries, told.history(1, 9, k), change);
                Due.due("as it was", told.seen(), change == 0 || change % 2 == 0 ? NONE : 100 + change);
            }
            Due.due("no more of " + entries, told.history(1, 9, entries - lost), NONE);
            Due.due("nor ahead of them", told.history(1, 9, -1), NONE);
            if (entries % 2 == 1) {
                x.map(1, 9, 100 + entries, false);
            } else {
                x.unmap(0, 1, 9);
            }
        }
    }

    /** The one that is too many comes by each of the calls that change an entry. */
    private static void historyByEachCall() {
        Subject x = Subject.ofCores(1);
        x.map(2, 0, 0, true);
        for (int i = 1; i <= 17; i++) {
            x.remap(0, 2, 0, i, true);
        }
        Due.due("nineteen: the last", x.history(2, 0, 18), 18);
        Due.due("nineteen: no more", x.history(2, 0, 19), NONE);
        Subject unmapped = x.copy();
        Subject cleared = x.copy();
        for (Subject y : new Subject[] {x, unmapped, cleared}) {
            y.remap(0, 2, 0, 99, true);
            Due.due("twenty: the first", y.history(2, 0, 0), 0);
            Due.due("twenty: the last", y.history(2, 0, 19), 19);
        }
        x.remap(0, 2, 0, 98, false);
        unmapped.unmap(0, 2, 0);
        cleared.clear(0, 2);
        int[] latest = {98, NONE, NONE};
        Subject[] all = {x, unmapped, cleared};
        for (int i = 0; i < 3; i++) {
            Due.due("one more: the first is lost", all[i].history(2, 0, 0), 1);
            Due.due("it was mapped then", all[i].seen(), 256);
            Due.due("one more: the last", all[i].history(2, 0, 19), 20);
            Due.due("as it is", all[i].seen(), latest[i]);
            Due.due("one more: twenty", all[i].history(2, 0, 20), NONE);
        }
        unmapped.map(2, 0, 97, true);
        Due.due("map too: the second is lost", unmapped.history(2, 0, 0), 2);
        Due.due("map too: the last", unmapped.history(2, 0, 19), 21);
        Due.due("as it is", unmapped.seen(), 353);
    }

    /** Forty shoots and as many calls of map(), and one: more changes of a page there can't be. */
    private static void historyAsLongAsItGets() {
        Subject x = Subject.ofCores(1);
        for (int i = 0; i < 40; i++) {
            x.map(0, 15, i, true);
            x.unmap(0, 0, 15);
        }
        x.map(0, 15, 255, true);
        for (int k = 0; k < 20; k++) {
            Due.due("history " + k, x.history(0, 15, k), 62 + k);
        }
        Due.due("as it is", x.seen(), 511);
        Due.due("twenty", x.history(0, 15, 20), NONE);
        x.history(0, 15, 1);
        Due.due("as it was", x.seen(), 256 + 31);
    }

    private static void historyOfEachPage() {
        Subject x = Subject.ofCores(1);
        x.map(0, 15, 1, false);
        x.map(1, 0, 2, false);
        x.map(1, 1, 3, false);
        for (int i = 0; i < 20; i++) {
            x.remap(0, 1, 0, i, false);
        }
        Due.due("full", x.history(1, 0, 0), 4);
        Due.due("full", x.history(1, 0, 19), 23);
        Due.due("the page ahead of it", x.history(0, 15, 0), 0);
        Due.due("the page ahead of it", x.history(0, 15, 1), 1);
        Due.due("as it was", x.seen(), 1);
        Due.due("the page ahead of it", x.history(0, 15, 2), NONE);
        Due.due("the page behind it", x.history(1, 1, 0), 0);
        Due.due("the page behind it", x.history(1, 1, 1), 3);
        Due.due("as it was", x.seen(), 3);
        Due.due("the page behind it", x.history(1, 1, 2), NONE);
    }

    /** A note of entry 1 of 20: it was so as long as that entry is kept, and is not told to be with the next change. */
    private static void wasSoAtTheEdgeOfHistory() {
        Subject x = Subject.ofCores(2);
        x.map(0, 3, 200, true);
        x.look(1, 3, false);
        x.sleep(1);
        Due.due("it is so", x.wasSo(1, 0), 1);
        for (int i = 0; i < 19; i++) {
            x.remap(0, 0, 3, i, true);
            Due.due("kept after " + (i + 1) + " changes", x.wasSo(1, 0), 1);
        }
        Due.due("the eldest kept", x.history(0, 3, 0), 1);
        x.remap(0, 0, 3, 19, true);
        Due.due("lost", x.wasSo(1, 0), 0);
        x.remap(0, 0, 3, 200, false);
        Due.due("the frame, but not writable", x.wasSo(1, 0), 0);
        x.unmap(0, 0, 3);
        Due.due("NONE", x.wasSo(1, 0), 0);
        x.map(0, 3, 200, true);
        Due.due("so again", x.wasSo(1, 0), 1);
    }

    /** "SHOOTS 0, 1, .. (40 at most)." */
    private static void shootsUpToForty() {
        Subject x = Subject.mapped(1, 1);
        Due.due("none at first", x.shoot(0, 0), UNKNOWN);
        for (int k = 0; k < 40; k++) {
            Due.due("how many", x.count(2), k);
            Due.due("shoot " + k, x.remap(0, 0, 0, k, true), k);
            Due.due("it is there", x.shoot(k, 3), k + 1);
            Due.due("no next one", x.shoot(k + 1, 3), UNKNOWN);
        }
        Due.due("full", x.remap(0, 0, 0, 99, true), FULL);
        Due.due("as it was", x.entry(0, 0), 256 + 39);
        Due.due("how many", x.count(2), 40);
        Due.due("done", x.count(3), 40);
        Due.due("map needs none", x.map(0, 1, 1, true), 1);
        Due.due("look needs none", x.look(0, 1, true), 1);
    }

    private static void theFortiethByEachCall() {
        Subject x = Subject.mapped(1, 2);
        for (int k = 0; k < 39; k++) {
            x.remap(0, 0, 0, k, true);
        }
        Subject unmapped = x.copy();
        Subject cleared = x.copy();
        Due.due("remap", x.remap(0, 0, 1, 9, true), 39);
        Due.due("unmap", unmapped.unmap(0, 0, 1), 39);
        Due.due("clear", cleared.clear(0, 0), 39);
        cleared.map(0, 1, 1, true);
        unmapped.map(0, 1, 1, true);
        for (Subject y : new Subject[] {x, unmapped, cleared}) {
            Due.due("no more: remap", y.remap(0, 0, 1, 1, true), FULL);
            Due.due("no more: unmap", y.unmap(0, 0, 1), FULL);
            Due.due("no more: clear", y.clear(0, 0), FULL);
            Due.due("the last", y.shoot(39, 4), 42);
        }
    }

    /** Begun by four cores in turn, each answered by three. */
    private static void fortyInTurns() {
        Subject x = Subject.mapped(4, 1);
        for (int k = 0; k < 40; k++) {
            Due.due("shoot " + k, x.remap(k % 4, 0, 0, k, true), k);
            Due.due("answered", x.rounds(0, 4), 3);
            Due.due("by", x.shoot(k, 0), k % 4);
        }
        Due.due("done", x.count(3), 40);
        Due.due("calls taken", x.count(8), 120);
        Due.due("no more", x.remap(0, 0, 0, 1, true), FULL);
        for (int c = 0; c < 4; c++) {
            Due.due("generation of core " + c, x.core(c, 4), 40);
            Due.due("its queue", x.core(c, 3), 0);
        }
        Due.due("the last is done in the third of its turns", x.shoot(39, 6), x.count(1) - 1);
    }

    private static void fortyAgainAfterCores() {
        Subject x = Subject.mapped(1, 1);
        for (int k = 0; k < 40; k++) {
            x.remap(0, 0, 0, k, true);
        }
        x.cores(1);
        Due.due("no shoot", x.shoot(0, 0), UNKNOWN);
        Due.due("no generation", x.count(10), 0);
        x.map(0, 0, 0, true);
        for (int k = 0; k < 40; k++) {
            Due.due("shoot " + k, x.remap(0, 0, 0, k, true), k);
        }
        Due.due("full", x.remap(0, 0, 0, 1, true), FULL);
    }

    /** "SPACES have a GENERATION: 0 at first, one more with each SHOOT that is begun in them." */
    private static void generationsUpToForty() {
        for (int s = 0; s < 3; s++) {
            Subject x = Subject.ofCores(1);
            x.map(s, 0, 0, true);
            for (int k = 0; k < 40; k++) {
                Due.due("generation", x.count(10 + s), k);
                Due.due("the core's", x.core(0, 4 + s), k);
                x.remap(0, s, 0, k, true);
            }
            for (int other = 0; other < 3; other++) {
                Due.due("generation of space " + other, x.count(10 + other), other == s ? 40 : 0);
                Due.due("the core's", x.core(0, 4 + other), other == s ? 40 : 0);
            }
        }
    }

    /** With each of four cores' own shoot under way, each has the calls of three, in order. */
    private static void queuesOfThree() {
        Subject x = Subject.mapped(4, 4);
        for (int c = 0; c < 4; c++) {
            Due.due("begins", x.unmap(c, 0, c), c);
            for (int other = 0; other < 4; other++) {
                Due.due("calls of " + other, x.core(other, 3), other > c ? c + 1 : c);
            }
        }
        for (int c = 0; c < 4; c++) {
            for (int i = 0; i < 3; i++) {
                Due.due("in order", x.take(c), i < c ? i : i + 1);
                Due.due("left", x.core(c, 3), 2 - i);
            }
            Due.due("none left", x.take(c), NONE);
            Due.due("none left", x.core(c, 3), 0);
        }
        Due.due("all are done", x.count(3), 4);
        Due.due("calls taken", x.count(8), 12);
    }

    private static void leavingWithEachLengthOfQueue() {
        for (int calls = 0; calls <= 3; calls++) {
            Subject x = Subject.mapped(4, 4);
            for (int page = 0; page < 4; page++) {
                x.look(3, page, false);
            }
            for (int c = 0; c < calls; c++) {
                x.unmap(c, 0, c);
            }
            Subject leaving = x.copy();
            Due.due("sleep takes", x.sleep(3), calls);
            Due.due("coming forgets none", leaving.enter(3, 1), 0);
            for (Subject y : new Subject[] {x, leaving}) {
                Due.due("calls taken", y.count(8), calls);
                Due.due("none is left", y.core(3, 3), 0);
                Due.due("notes", y.core(3, 2), 4 - calls);
                Due.due("generation", y.core(3, 4), calls);
            }
        }
    }

    private static void oneCore() {
        Subject x = Subject.mapped(1, 3);
        x.look(0, 0, false);
        Due.due("unmap", x.unmap(0, 0, 0), 0);
        Due.due("done at once", x.shoot(0, 5), 1);
        Due.due("none is waited for", x.shoot(0, 7), 0);
        Due.due("nor itself", x.shoot(0, 8), 0);
        Due.due("none under way", x.underWay(0), NONE);
        Due.due("so the next", x.clear(0, 0), 1);
        Due.due("nothing to take", x.take(0), NONE);
        Due.due("nor in sixty turns", x.rounds(0, 60), 0);
        Due.due("sleeps", x.sleep(0), 0);
        Due.due("all asleep: turns go on", x.rounds(0, 60), 0);
        Due.due("wakes", x.wake(0), 0);
        Due.due("no core 1", x.core(1, 0), UNKNOWN);
    }

    private static void fourCores() {
        Subject x = Subject.mapped(4, 1);
        Due.due("unmap", x.unmap(2, 0, 0), 0);
        Due.due("waits for three", x.shoot(0, 7), 3);
        for (int c = 0; c < 4; c++) {
            Due.due("waits for core " + c, x.shoot(0, 8 + c), c == 2 ? 0 : 1);
        }
        int[] order = {3, 0, 1};
        for (int i = 0; i < 3; i++) {
            Due.due("not done", x.shoot(0, 5), 0);
            Due.due("nor at a time", x.shoot(0, 6), NONE);
            Due.due("under way", x.underWay(2), 0);
            Due.due("takes it", x.take(order[i]), 0);
            Due.due("waits for", x.shoot(0, 7), 2 - i);
            Due.due("not for it", x.shoot(0, 8 + order[i]), 0);
        }
        Due.due("done", x.shoot(0, 5), 1);
        Due.due("none under way", x.underWay(2), NONE);
    }
}
