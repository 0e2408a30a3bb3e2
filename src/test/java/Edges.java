import java.util.ArrayList;
import java.util.LinkedHashMap;
import java.util.List;
import java.util.Map;
import java.util.function.Consumer;

/** The calls with their numbers at the edges, and the states in which they are tried. */
final class Edges {
    private static final int LEAST = Integer.MIN_VALUE;
    private static final int GREATEST = Integer.MAX_VALUE;

    private static final int[] CORES = {LEAST, -1, 0, 1, 2, 3, 4, GREATEST};
    private static final int[] SPACES = {LEAST, -1, 0, 1, 2, 3, GREATEST};
    private static final int[] PAGES = {LEAST, -1, 0, 1, 15, 16, GREATEST};
    private static final int[] FRAMES = {LEAST, -1, 0, 255, 256, GREATEST};
    private static final int[] TURNS = {LEAST, -1, 0, 1, 2, 59, 60, 61, GREATEST};
    private static final int[] NOTES = {LEAST, -1, 0, 1, 2, 3, 4, GREATEST};
    private static final int[] SHOOTS = {LEAST, -1, 0, 1, 2, 38, 39, 40, GREATEST};
    private static final int[] ENTRIES = {LEAST, -1, 0, 1, 2, 18, 19, 20, 21, GREATEST};
    private static final int[] WHATS = {LEAST, LEAST + 4, LEAST + 8, LEAST + 10, -1, 0, 1, 2, 3, 4, 5, 6, 7, 8, 9, 10,
        11, 12, 13, GREATEST};
    private static final boolean[] FLAGS = {false, true};

    private Edges() {
    }

    /** What brings a new object into each state, by the state's name. */
    static Map<String, Consumer<Face>> states() {
        Map<String, Consumer<Face>> states = new LinkedHashMap<>();
        states.put("as made", x -> { });
        states.put("one core", x -> x.cores(1));
        states.put("four cores", x -> x.cores(4));
        states.put("waiting", Edges::waiting);
        states.put("asleep and elsewhere", Edges::asleepAndElsewhere);
        states.put("all mapped", Edges::allMapped);
        states.put("full of shoots", Edges::fullOfShoots);
        states.put("full, with one under way", Edges::fullWithOneUnderWay);
        states.put("full of history", Edges::fullOfHistory);
        states.put("begun again", Edges::begunAgain);
        return states;
    }

    // ---- states

    private static void map(Face x, int pages) {
        for (int page = 0; page < pages; page++) {
            x.map(0, page, 50 + page, page % 2 == 0);
        }
    }

    /** Of three cores, two have shoots under way, and each has calls to take and notes that are stale. */
    private static void waiting(Face x) {
        x.cores(3);
        map(x, 4);
        for (int c = 0; c < 3; c++) {
            for (int page = 0; page < 4; page++) {
                x.look(c, page, false);
            }
        }
        x.unmap(0, 0, 0);
        x.remap(1, 0, 1, 99, true);
    }

    private static void asleepAndElsewhere(Face x) {
        x.cores(4);
        map(x, 2);
        x.map(1, 15, 255, true);
        for (int c = 0; c < 4; c++) {
            x.look(c, 0, false);
            x.look(c, 1, false);
        }
        x.sleep(2);
        x.enter(3, 1);
        x.look(3, 15, false);
        x.unmap(0, 0, 0);
        x.remap(1, 1, 15, 0, false);
        x.history(0, 0, 1);
        x.look(3, 15, true);
    }

    private static void allMapped(Face x) {
        for (int i = 0; i < 48; i++) {
            x.map(i / 16, i % 16, i, i % 2 == 0);
        }
        x.look(1, 15, false);
        x.enter(1, 2);
        x.look(1, 15, false);
    }

    private static void fullOfShoots(Face x) {
        x.cores(2);
        map(x, 2);
        x.enter(1, 2);
        for (int k = 0; k < 40; k++) {
            x.remap(0, 0, 1, k, false);
        }
    }

    private static void fullWithOneUnderWay(Face x) {
        x.cores(4);
        map(x, 2);
        x.enter(3, 1);
        x.sleep(2);
        for (int k = 0; k < 39; k++) {
            x.remap(0, 0, 1, k, true);
            x.take(1);
        }
        x.look(1, 1, false);
        x.unmap(0, 0, 1);
    }

    /** Pages 0 and 1 have 20 and 21 entries, and core 1 sleeps with notes of the first of them. */
    private static void fullOfHistory(Face x) {
        map(x, 2);
        x.look(1, 0, false);
        x.look(1, 1, false);
        x.sleep(1);
        for (int i = 0; i < 18; i++) {
            x.remap(0, 0, 0, i, false);
            x.remap(0, 0, 1, i, false);
        }
        x.remap(0, 0, 1, 18, true);
    }

    private static void begunAgain(Face x) {
        asleepAndElsewhere(x);
        x.cores(3);
        x.map(0, 0, 1, true);
    }

    // ---- calls

    /** Every call with every choice of numbers at their edges. */
    static List<Call> calls() {
        List<Call> calls = new ArrayList<>();
        calls.add(Call.how());
        calls.add(Call.seen());
        calls.add(Call.digest());
        for (int n : WHATS) {
            calls.add(Call.cores(n));
            calls.add(Call.count(n));
        }
        for (int c : CORES) {
            ofCore(calls, c);
        }
        for (int s : SPACES) {
            for (int page : PAGES) {
                ofPage(calls, s, page);
            }
        }
        for (int k : SHOOTS) {
            for (int what : WHATS) {
                calls.add(Call.shoot(k, what));
            }
        }
        return calls;
    }

    private static void ofCore(List<Call> calls, int c) {
        calls.add(Call.sleep(c));
        calls.add(Call.wake(c));
        calls.add(Call.take(c));
        calls.add(Call.underWay(c));
        for (int n : TURNS) {
            calls.add(Call.rounds(c, n));
        }
        for (int what : WHATS) {
            calls.add(Call.core(c, what));
        }
        for (int k : NOTES) {
            calls.add(Call.wasSo(c, k));
            for (int what : WHATS) {
                calls.add(Call.note(c, k, what));
            }
        }
        for (int page : PAGES) {
            calls.add(Call.look(c, page, false));
            calls.add(Call.look(c, page, true));
        }
        for (int s : SPACES) {
            calls.add(Call.enter(c, s));
            calls.add(Call.clear(c, s));
            for (int page : PAGES) {
                shootsOf(calls, c, s, page);
            }
        }
    }

    private static void shootsOf(List<Call> calls, int c, int s, int page) {
        calls.add(Call.unmap(c, s, page));
        for (int frame : FRAMES) {
            for (boolean writable : FLAGS) {
                calls.add(Call.remap(c, s, page, frame, writable));
            }
        }
    }

    private static void ofPage(List<Call> calls, int s, int page) {
        calls.add(Call.entry(s, page));
        calls.add(Call.danger(s, page));
        for (int frame : FRAMES) {
            for (boolean writable : FLAGS) {
                calls.add(Call.map(s, page, frame, writable));
            }
        }
        for (int k : ENTRIES) {
            calls.add(Call.history(s, page, k));
        }
    }
}
