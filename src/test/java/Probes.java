import java.util.ArrayList;
import java.util.List;

/** Calls by which two objects are told apart: all that an object tells, and how it goes on. */
final class Probes {
    private static final int MOST_TURNS = 60;

    private Probes() {
    }

    /** Of these any part may be left out: none changes what another answers, but for SEEN, which is read first. */
    static List<Call> reading() {
        List<Call> calls = new ArrayList<>();
        calls.add(Call.seen());
        calls.add(Call.how());
        calls.add(Call.digest());
        for (int what = 0; what < 13; what++) {
            calls.add(Call.count(what));
        }
        for (int c = 0; c < 4; c++) {
            readCore(calls, c);
        }
        for (int i = 0; i < 12 * 41; i++) {
            calls.add(Call.shoot(i / 12, i % 12));
        }
        for (int i = 0; i < 48; i++) {
            readPage(calls, i / 16, i % 16);
        }
        return calls;
    }

    private static void readCore(List<Call> calls, int c) {
        calls.add(Call.underWay(c));
        for (int what = 0; what < 7; what++) {
            calls.add(Call.core(c, what));
        }
        for (int k = 0; k <= 4; k++) {
            calls.add(Call.wasSo(c, k));
            for (int what = 0; what < 6; what++) {
                calls.add(Call.note(c, k, what));
            }
        }
    }

    private static void readPage(List<Call> calls, int s, int page) {
        calls.add(Call.entry(s, page));
        calls.add(Call.danger(s, page));
        for (int k = 0; k <= 20; k++) {
            calls.add(Call.history(s, page, k));
            calls.add(Call.seen());
        }
    }

    /** Ways to go on, each on an object of its own. */
    static List<List<Call>> goingOn() {
        return List.of(takeAndLook(), wander(), shootPages(), shootSpaces());
    }

    private static List<Call> takeAndLook() {
        List<Call> calls = new ArrayList<>();
        for (int i = 0; i < 12; i++) {
            calls.add(Call.take(i % 4));
            calls.add(Call.digest());
        }
        for (int i = 0; i < 64; i++) {
            calls.add(Call.look(i % 4, i / 4, i / 4 % 2 == 0));
            calls.add(Call.how());
        }
        calls.add(Call.digest());
        return calls;
    }

    private static List<Call> wander() {
        List<Call> calls = new ArrayList<>();
        for (int i = 0; i < 12; i++) {
            int c = i % 4;
            int s = i / 4;
            calls.add(Call.wake(c));
            calls.add(Call.enter(c, s));
            calls.add(Call.look(c, s, false));
            calls.add(Call.sleep(c));
            calls.add(Call.digest());
        }
        return calls;
    }

    private static List<Call> shootPages() {
        List<Call> calls = new ArrayList<>();
        for (int i = 0; i < 48; i++) {
            int c = i % 4;
            int s = i % 3;
            int page = i / 3;
            calls.add(Call.map(s, page, page, true));
            calls.add(page % 2 == 0 ? Call.unmap(c, s, page) : Call.remap(c, s, page, 99, false));
            calls.add(Call.rounds(c, 1 + page));
        }
        calls.add(Call.digest());
        return calls;
    }

    private static List<Call> shootSpaces() {
        List<Call> calls = new ArrayList<>();
        for (int i = 0; i < 12; i++) {
            int c = i % 4;
            int s = i / 4;
            calls.add(Call.clear(c, s));
            calls.add(Call.rounds(c, MOST_TURNS));
            calls.add(Call.map(s, 15, c, false));
            calls.add(Call.look(c, 15, false));
            calls.add(Call.digest());
        }
        return calls;
    }
}
