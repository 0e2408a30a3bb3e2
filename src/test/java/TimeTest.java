import java.util.function.ToLongFunction;

/** TIME: 0 at first, one more with each call marked + that was not refused, ahead of what the call does. */
public final class TimeTest {
    private static final int NONE = ShootDown.NONE;

    private TimeTest() {
    }

    public static void main(String[] args) {
        zeroAtFirst();
        oneMoreWithEachCallMarked();
        noneWithTheOthers();
        aheadOfWhatTheCallDoes();
        calledInOneTimeWhenLeaving();
        eachTurnHasItsOwn();
        asFarAsItGoes();
        Due.finish();
    }

    /** Of 3 cores, 1 has a call of 0's shoot, 2 sleeps. Page 1 of space 0 is noted by all three. */
    private static Subject busy() {
        Subject x = Subject.ofCores(3);
        x.map(0, 0, 1, true);
        x.map(0, 1, 2, false);
        for (int c = 0; c < 3; c++) {
            x.look(c, 1, false);
        }
        x.sleep(2);
        x.unmap(0, 0, 0);
        return x;
    }

    private static void zeroAtFirst() {
        Due.due("new", new Subject().count(1), 0);
        Subject x = busy();
        x.cores(3);
        Due.due("after cores()", x.count(1), 0);
        Due.due("each page from 0 on", x.history(0, 0, 0), 0);
        x.map(0, 0, 1, true);
        Due.due("and from 1 on again", x.history(0, 0, 1), 1);
    }

    private static void takes(String call, int time, ToLongFunction<Face> run) {
        Subject x = busy();
        int before = x.count(1);
        run.applyAsLong(x);
        Due.due("TIME with " + call, x.count(1) - before, time);
    }

    private static void oneMoreWithEachCallMarked() {
        takes("map", 1, x -> x.map(0, 0, 1, true));
        takes("enter", 1, x -> x.enter(1, 1));
        takes("sleep", 1, x -> x.sleep(1));
        takes("wake", 1, x -> x.wake(2));
        takes("look, a hit", 1, x -> x.look(1, 1, false));
        takes("look, a walk", 1, x -> x.look(1, 1, false));
        takes("look, a fault", 1, x -> x.look(1, 0, false));
        takes("look, a note that does not do, then a fault", 1, x -> x.look(1, 1, true));
        takes("unmap", 1, x -> x.unmap(1, 0, 1));
        takes("remap", 1, x -> x.remap(1, 0, 1, 9, true));
        takes("clear", 1, x -> x.clear(1, 0));
        takes("take", 1, x -> x.take(1));
        takes("take, with none to take", 1, x -> x.take(0));
        takes("rounds, one turn", 1, x -> x.rounds(0, 1));
        takes("rounds, one turn with a call", 1, x -> x.rounds(1, 1));
        takes("rounds, sixty turns", 60, x -> x.rounds(0, 60));
        takes("rounds, a sleeper's turn", 1, x -> x.rounds(2, 1));
    }

    private static void noneWithTheOthers() {
        takes("entry", 0, x -> x.entry(0, 1));
        takes("how", 0, Face::how);
        takes("note", 0, x -> x.note(1, 0, 0));
        takes("wasSo", 0, x -> x.wasSo(1, 0));
        takes("shoot", 0, x -> x.shoot(0, 0));
        takes("underWay", 0, x -> x.underWay(0));
        takes("core", 0, x -> x.core(0, 0));
        takes("history", 0, x -> x.history(0, 0, 0));
        takes("seen", 0, Face::seen);
        takes("danger", 0, x -> x.danger(0, 0));
        takes("count", 0, x -> x.count(0));
        takes("digest", 0, Face::digest);
    }

    private static void aheadOfWhatTheCallDoes() {
        Subject x = Subject.ofCores(2);
        x.map(0, 0, 1, true);
        Due.due("map", x.history(0, 0, 1), 1);
        x.map(0, 1, 1, true);
        x.look(1, 0, false);
        Due.due("look", x.note(1, 0, 4), 3);
        x.look(1, 0, false);
        Due.due("a hit takes no new note", x.note(1, 0, 4), 3);
        x.unmap(0, 0, 0);
        Due.due("unmap: history", x.history(0, 0, 2), 5);
        Due.due("unmap: begun", x.shoot(0, 4), 5);
        Due.due("unmap: not done", x.shoot(0, 6), NONE);
        x.take(1);
        Due.due("take: done", x.shoot(0, 6), 6);
        Due.due("take: begun then as before", x.shoot(0, 4), 5);
        x.sleep(1);
        x.remap(0, 0, 1, 2, true);
        Due.due("remap: history", x.history(0, 1, 2), 8);
        Due.due("remap: begun", x.shoot(1, 4), 8);
        Due.due("remap: done at once", x.shoot(1, 6), 8);
        x.clear(0, 0);
        Due.due("clear: history", x.history(0, 1, 3), 9);
        Due.due("clear: begun", x.shoot(2, 4), 9);
        Due.due("clear: done at once", x.shoot(2, 6), 9);
    }

    private static void calledInOneTimeWhenLeaving() {
        Subject x = Subject.ofCores(4);
        for (int c = 0; c < 3; c++) {
            x.map(0, c, c, true);
        }
        for (int c = 0; c < 3; c++) {
            x.unmap(c, 0, c);
        }
        x.rounds(0, 3);
        x.rounds(0, 3);
        Due.due("core 3 alone is waited for", x.shoot(0, 7) + x.shoot(1, 7) + x.shoot(2, 7), 3);
        Subject leaving = x.copy();
        x.sleep(3);
        leaving.enter(3, 2);
        for (int k = 0; k < 3; k++) {
            Due.due("sleep: shoot " + k + " is done", x.shoot(k, 6), 13);
            Due.due("enter: shoot " + k + " is done", leaving.shoot(k, 6), 13);
        }
        Due.due("sleep took one of TIME", x.count(1), 13);
        Due.due("enter took one of TIME", leaving.count(1), 13);
    }

    private static void eachTurnHasItsOwn() {
        Subject x = Subject.ofCores(4);
        x.map(0, 0, 1, true);
        x.unmap(0, 0, 0);
        for (int turns = 1; turns <= 6; turns++) {
            Subject y = x.copy();
            Due.due("taken in " + turns, y.rounds(2, turns), turns < 2 ? 1 : turns < 4 ? 2 : 3);
            Due.due("TIME after " + turns, y.count(1), 2 + turns);
            Due.due("done by " + turns, y.shoot(0, 6), turns < 4 ? NONE : 6);
        }
    }

    /** 510 calls of sixty turns, and two more that tell: 512 of one object. */
    private static void asFarAsItGoes() {
        Subject x = new Subject();
        long atFirst = new Subject().digest();
        for (int i = 0; i < 510; i++) {
            x.rounds(i % 2, 60);
        }
        Due.due("TIME", x.count(1), 30600);
        Due.due("digest, the last of 512 calls", x.digest(), atFirst + 30600);
        Due.due("no call is left", x.callsLeft(), 0);
    }
}
