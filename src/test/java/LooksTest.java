/** Promises 8 to 11. */
public final class LooksTest {
    private static final int FAULT = ShootDown.FAULT;

    private LooksTest() {
    }

    public static void main(String[] args) {
        promise8LookWalksThenHits();
        promise8LookFaults();
        promise8LookToWrite();
        promise8LookGoesByStaleNotes();
        promise8LookLosesTheEldest();
        promise9How();
        promise10Note();
        promise10NoteStaleByWhatItIs();
        promise11WasSo();
        promise11WasSoByWhatIsKept();
        Due.finish();
    }

    private static void promise8LookWalksThenHits() {
        Subject x = new Subject();
        x.map(0, 15, 255, false);
        Due.due("walk", x.look(0, 15, false), 255);
        Due.due("noted", x.core(0, 2), 1);
        Due.due("hit", x.look(0, 15, false), 255);
        Due.due("no second note", x.core(0, 2), 1);
        Due.due("walks", x.count(6), 1);
        Due.due("hits", x.count(4), 1);
        Due.due("each takes time", x.count(1), 3);
        Due.due("noted at the walk's time", x.note(0, 0, 4), 2);
        Due.due("the other walks for itself", x.look(1, 15, false), 255);
        Due.due("walks", x.count(6), 2);
    }

    private static void promise8LookFaults() {
        Subject x = new Subject();
        Due.due("nothing there", x.look(0, 0, false), FAULT);
        Due.due("nothing there, to write", x.look(0, 0, true), FAULT);
        Due.due("nothing noted", x.core(0, 2), 0);
        x.map(0, 0, 9, false);
        Due.due("not to write", x.look(0, 0, true), FAULT);
        Due.due("nothing noted", x.core(0, 2), 0);
        Due.due("faults", x.count(7), 3);
        Due.due("no walks", x.count(6), 0);
        Due.due("faults take time", x.count(1), 4);
        x.map(0, 1, 8, true);
        Due.due("to write", x.look(0, 1, true), 8);
        Due.due("a walk", x.count(6), 1);
    }

    private static void promise8LookToWrite() {
        Subject x = new Subject();
        x.map(0, 0, 9, false);
        x.look(0, 0, false);
        Due.due("read-only note, to write", x.look(0, 0, true), FAULT);
        Due.due("it is forgotten", x.core(0, 2), 0);
        Due.due("no hit", x.count(4), 0);
        x.look(1, 0, false);
        x.look(0, 0, false);
        x.remap(0, 0, 0, 10, true);
        Due.due("stale read-only note, to write: walks", x.look(1, 0, true), 10);
        Due.due("went as a walk", x.how(), 3);
        Due.due("one note", x.core(1, 2), 1);
        Due.due("of the entry now", x.note(1, 0, 3), 1);
        Due.due("at this time", x.note(1, 0, 4), x.count(1));
        Due.due("writable note, to write", x.look(1, 0, true), 10);
        Due.due("a hit", x.how(), 1);
        Due.due("writable note, to read", x.look(1, 0, false), 10);
        Due.due("a hit", x.how(), 1);
    }

    private static void promise8LookGoesByStaleNotes() {
        Subject x = new Subject();
        x.map(0, 0, 9, true);
        x.look(1, 0, false);
        x.unmap(0, 0, 0);
        Due.due("goes by what was", x.look(1, 0, false), 9);
        Due.due("to write as well", x.look(1, 0, true), 9);
        Due.due("old", x.count(5), 2);
        Due.due("hits", x.count(4), 2);
        Due.due("who began it does not", x.look(0, 0, false), FAULT);
        x.take(1);
        Due.due("from the call on nobody does", x.look(1, 0, false), FAULT);
    }

    private static void promise8LookLosesTheEldest() {
        Subject x = new Subject();
        for (int page = 0; page < 6; page++) {
            x.map(0, page, 10 + page, true);
        }
        for (int page = 0; page < 4; page++) {
            x.look(0, page, false);
        }
        x.look(0, 0, false);
        x.look(0, 4, false);
        Due.due("four", x.core(0, 2), 4);
        Due.due("a hit makes no note younger", x.note(0, 0, 1), 1);
        Due.due("the youngest is last", x.note(0, 3, 1), 4);
        Due.due("each keeps its time", x.note(0, 0, 4) * 100 + x.note(0, 3, 4), 812);
        x.look(0, 5, true);
        Due.due("the next eldest", x.note(0, 0, 1), 2);
        Due.due("its frame", x.note(0, 0, 2), 12);
        x.enter(0, 1);
        x.map(1, 0, 99, true);
        x.look(0, 0, false);
        Due.due("lost for another space's too", x.note(0, 0, 1), 3);
        Due.due("that one's space", x.note(0, 3, 0), 1);
        x.look(0, 12, false);
        Due.due("a fault loses none", x.note(0, 0, 1), 3);
    }

    private static void promise9How() {
        Subject x = new Subject();
        Due.due("none yet", x.how(), 0);
        x.look(5, 0, false);
        Due.due("a refusal is none", x.how(), 0);
        x.look(0, 0, false);
        Due.due("fault", x.how(), 4);
        x.map(0, 0, 1, false);
        Due.due("other calls leave it", x.how(), 4);
        x.look(0, 0, false);
        Due.due("walk", x.how(), 3);
        x.look(0, 0, false);
        Due.due("hit", x.how(), 1);
        x.remap(1, 0, 0, 2, false);
        x.look(0, 0, false);
        Due.due("hit by a stale note", x.how(), 2);
        x.look(0, 16, false);
        Due.due("a refusal leaves it", x.how(), 2);
        x.sleep(0);
        x.look(0, 0, false);
        Due.due("so does one for sleep", x.how(), 2);
        Due.due("no time goes", x.how() == 2 ? x.count(1) : -9, 7);
    }

    private static void promise10Note() {
        Subject x = new Subject();
        x.map(0, 3, 200, true);
        x.enter(1, 2);
        x.map(2, 15, 255, false);
        x.look(1, 15, false);
        x.enter(1, 0);
        x.look(1, 3, false);
        int[][] want = {{2, 15, 255, 0, 4, 0}, {0, 3, 200, 1, 6, 0}};
        for (int k = 0; k < 2; k++) {
            for (int what = 0; what < 6; what++) {
                Due.due("note(1, " + k + ", " + what + ")", x.note(1, k, what), want[k][what]);
            }
        }
        x.remap(0, 0, 3, 200, false);
        Due.due("stale", x.note(1, 1, 5), 1);
        Due.due("still as it was", x.note(1, 1, 3), 1);
        Due.due("the other is not stale", x.note(1, 0, 5), 0);
        Due.due("no time goes", x.count(1), 7);
    }

    private static void promise10NoteStaleByWhatItIs() {
        Subject x = new Subject();
        x.map(0, 0, 5, true);
        x.look(1, 0, false);
        x.unmap(0, 0, 0);
        Due.due("stale", x.note(1, 0, 5), 1);
        x.map(0, 0, 5, true);
        Due.due("the entry is the same again", x.note(1, 0, 5), 0);
        x.look(1, 0, false);
        Due.due("a plain hit", x.how(), 1);
        Due.due("not old", x.count(5), 0);
    }

    private static void promise11WasSo() {
        Subject x = new Subject();
        x.map(0, 0, 5, true);
        x.look(1, 0, false);
        Due.due("it is so", x.wasSo(1, 0), 1);
        x.unmap(0, 0, 0);
        Due.due("it was so", x.wasSo(1, 0), 1);
        Due.due("no time goes", x.count(1), 3);
    }

    /** A note's time is lost to the history when 20 later entries are kept. */
    private static void promise11WasSoByWhatIsKept() {
        Subject x = new Subject();
        x.map(0, 0, 5, true);
        x.look(1, 0, false);
        x.sleep(1);
        for (int i = 0; i < 19; i++) {
            x.remap(0, 0, 0, 100 + i, true);
        }
        Due.due("the eldest kept is what was noted", x.history(0, 0, 0), 1);
        Due.due("so it was", x.wasSo(1, 0), 1);
        x.remap(0, 0, 0, 119, true);
        Due.due("it is kept no more", x.history(0, 0, 0), 4);
        Due.due("so nothing tells", x.wasSo(1, 0), 0);
        x.remap(0, 0, 0, 5, false);
        Due.due("nor the frame alone", x.wasSo(1, 0), 0);
        x.remap(0, 0, 0, 5, true);
        Due.due("so it is again", x.wasSo(1, 0), 1);
        x.unmap(0, 0, 0);
        Due.due("so it was, later", x.wasSo(1, 0), 1);
    }
}
