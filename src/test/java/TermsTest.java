/** The terms' sentences that tell who is called, who is behind, what is forgotten and what is stale: their edges. */
public final class TermsTest {
    private static final int NONE = ShootDown.NONE;
    private static final int FAULT = ShootDown.FAULT;

    private TermsTest() {
    }

    public static void main(String[] args) {
        whoIsCalled();
        whoBeginsIsNotCalled();
        calledOnlyAsItIsThen();
        behindByNoneAndByOne();
        behindInThatSpaceAlone();
        behindWithItsCallStillToTake();
        generationOfACallIfMore();
        aCallForgetsItsPageAlone();
        aCallOfASpaceForgetsThatSpaceAlone();
        wakingForgetsNoneToFour();
        comingForgetsNoneToFour();
        wakingAfterManyShoots();
        comingIsToldOfTheSpaceItComesTo();
        staleByEachPart();
        staleWithoutAShoot();
        hitsAndOldOnes();
        lookToReadAndToWrite();
        dangerNeedsEachPart();
        dangerByEachCoreAndEachNote();
        wasSoForEachNote();
        Due.finish();
    }

    /** "A CALL comes behind the QUEUE of each other CORE that is AWAKE and has this SPACE": of 3 others, each set. */
    private static void whoIsCalled() {
        for (int set = 0; set < 8; set++) {
            Subject asleep = Subject.mapped(4, 1);
            Subject elsewhere = Subject.mapped(4, 1);
            for (int c = 1; c < 4; c++) {
                if ((set >> (c - 1)) % 2 == 0) {
                    asleep.sleep(c);
                    elsewhere.enter(c, c % 2 + 1);
                }
            }
            for (Subject x : new Subject[] {asleep, elsewhere}) {
                x.unmap(0, 0, 0);
                Due.due("waited for, of set " + set, x.shoot(0, 7), Integer.bitCount(set));
                Due.due("done, of set " + set, x.shoot(0, 5), set == 0 ? 1 : 0);
                Due.due("under way, of set " + set, x.underWay(0), set == 0 ? NONE : 0);
                for (int c = 1; c < 4; c++) {
                    int called = (set >> (c - 1)) % 2;
                    Due.due("core " + c + " has the call, of set " + set, x.core(c, 3), called);
                    Due.due("core " + c + " is waited for, of set " + set, x.shoot(0, 8 + c), called);
                }
            }
        }
    }

    private static void whoBeginsIsNotCalled() {
        for (int c = 0; c < 4; c++) {
            for (int s = 0; s < 3; s++) {
                Subject x = Subject.mapped(4, 0);
                x.map(s, 3, 33, true);
                x.unmap(c, s, 3);
                Due.due("core " + c + " of its own", x.core(c, 3), 0);
                Due.due("nor waited for", x.shoot(0, 8 + c), 0);
                Due.due("who is in the space is", x.shoot(0, 7), s == 0 ? 3 : 0);
                Due.due("generation, wherever it is", x.core(c, 4 + s), 1);
            }
        }
    }

    /** Who comes or wakes when the shoot has been begun is not called by it, and not behind either. */
    private static void calledOnlyAsItIsThen() {
        Subject x = Subject.mapped(4, 2);
        x.sleep(2);
        x.enter(3, 1);
        x.unmap(0, 0, 0);
        x.wake(2);
        x.enter(3, 0);
        Due.due("no call for who woke", x.core(2, 3), 0);
        Due.due("no call for who came", x.core(3, 3), 0);
        Due.due("core 1 alone is waited for", x.shoot(0, 7), 1);
        Due.due("who woke is not behind", x.core(2, 4), 1);
        Due.due("who came is not behind", x.core(3, 4), 1);
        x.unmap(2, 0, 1);
        Due.due("now it is called", x.core(3, 3), 1);
        Due.due("so are the others", x.shoot(1, 7), 3);
    }

    /** "All of its NOTES of this SPACE, if it is BEHIND in it as it begins." */
    private static void behindByNoneAndByOne() {
        Subject x = Subject.mapped(2, 6);
        x.enter(1, 1);
        for (int page = 0; page < 4; page++) {
            x.look(0, page, false);
        }
        Subject behind = x.copy();
        Due.due("not behind", x.core(0, 4), x.count(10));
        x.unmap(0, 0, 1);
        Due.due("forgets one", x.core(0, 2), 3);
        x.unmap(0, 0, 0);
        Due.due("by its own shoot it is not behind", x.core(0, 2), 2);
        x.unmap(0, 0, 5);
        Due.due("none noted of it: forgets none", x.core(0, 2), 2);
        behind.enter(1, 0);
        behind.unmap(1, 0, 5);
        Due.due("behind by one", behind.core(0, 4), behind.count(10) - 1);
        behind.unmap(0, 0, 4);
        Due.due("forgets all, though none of that page", behind.core(0, 2), 0);
        Due.due("has the new one", behind.core(0, 4), 2);
    }

    private static void behindInThatSpaceAlone() {
        Subject x = Subject.mapped(2, 4);
        x.map(1, 0, 10, true);
        x.map(1, 1, 11, true);
        x.look(1, 0, false);
        x.look(1, 1, false);
        x.enter(1, 1);
        x.look(1, 0, false);
        x.unmap(0, 0, 3);
        x.unmap(1, 1, 1);
        Due.due("behind in the other space alone: keeps its notes", x.core(1, 2), 3);
        Due.due("and stays behind there", x.core(1, 4), 0);
        x.unmap(1, 0, 0);
        Due.due("behind in this one: those of it go", x.core(1, 2), 1);
        Due.due("that of the other stays", x.note(1, 0, 0), 1);
        Due.due("not behind any more", x.core(1, 4), 2);
    }

    private static void behindWithItsCallStillToTake() {
        Subject x = Subject.mapped(2, 4);
        x.look(1, 2, false);
        x.unmap(0, 0, 0);
        x.remap(1, 0, 1, 9, true);
        Due.due("forgot all as it began", x.core(1, 2), 0);
        x.look(1, 2, false);
        Due.due("walked again", x.how(), 3);
        x.take(1);
        Due.due("the older call is of its page alone", x.core(1, 2), 1);
        Due.due("and of no later generation", x.core(1, 4), 2);
        x.take(0);
        x.sleep(1);
        Due.due("not behind as it wakes", x.wake(1), 0);
        Due.due("and keeps its note", x.core(1, 2), 1);
    }

    /** "Has the GENERATION that the SPACE had as that SHOOT was begun, if that is more than its own." */
    private static void generationOfACallIfMore() {
        Subject x = Subject.mapped(4, 4);
        x.unmap(0, 0, 0);
        x.unmap(1, 0, 1);
        x.unmap(2, 0, 2);
        int[][] want = {{1, 2, 3}, {2, 2, 3}, {3, 3, 3}, {1, 2, 3}};
        int[] atFirst = {1, 2, 3, 0};
        for (int c = 0; c < 4; c++) {
            Due.due("core " + c + ", as it began", x.core(c, 4), atFirst[c]);
        }
        for (int c = 0; c < 4; c++) {
            int calls = c == 3 ? 3 : 2;
            for (int i = 0; i < calls; i++) {
                int k = x.take(c);
                Due.due("core " + c + ", after shoot " + k, x.core(c, 4), want[c][k]);
            }
        }
    }

    private static void aCallForgetsItsPageAlone() {
        for (int page = 0; page < 4; page++) {
            Subject x = Subject.mapped(2, 5);
            x.map(1, page, 50, true);
            x.enter(1, 1);
            x.look(1, page, false);
            x.enter(1, 0);
            for (int i = 1; i < 4; i++) {
                x.look(1, (page + i) % 4, false);
            }
            Subject other = x.copy();
            other.look(1, page, false);
            Due.due("the same page of another space is lost by now", other.note(1, 0, 1), (page + 1) % 4);
            x.unmap(0, 0, page);
            x.take(1);
            Due.due("none noted of it: none goes", x.core(1, 2), 4);
            Due.due("that of another space stays", x.note(1, 0, 0), 1);
            other.unmap(0, 0, page);
            other.take(1);
            Due.due("one goes", other.core(1, 2), 3);
            for (int k = 0; k < 3; k++) {
                Due.due("the others stay in order", other.note(1, k, 1), (page + 1 + k) % 4);
            }
        }
    }

    private static void aCallOfASpaceForgetsThatSpaceAlone() {
        for (int own = 0; own <= 4; own++) {
            Subject x = Subject.mapped(2, 4);
            for (int page = 0; page < 4; page++) {
                x.map(2, page, 20 + page, true);
            }
            x.enter(1, 2);
            for (int page = own; page < 4; page++) {
                x.look(1, page, false);
            }
            x.enter(1, 0);
            for (int page = 0; page < own; page++) {
                x.look(1, page, false);
            }
            x.clear(0, 0);
            Due.due("all four, until it takes the call", x.core(1, 2), 4);
            Due.due("takes it", x.take(1), 0);
            Due.due("those of the other space stay, of " + own, x.core(1, 2), 4 - own);
            Due.due("not counted as of waking", x.count(9), 0);
            for (int k = 0; k < 4 - own; k++) {
                Due.due("in order", x.note(1, k, 2), 20 + own + k);
            }
        }
    }

    private static void wakingForgetsNoneToFour() {
        for (int notes = 0; notes <= 4; notes++) {
            Subject x = Subject.mapped(2, 5);
            for (int page = 0; page < notes; page++) {
                x.look(1, page, false);
            }
            x.sleep(1);
            Subject behind = x.copy();
            Due.due("not behind", x.wake(1), 0);
            Due.due("keeps all", x.core(1, 2), notes);
            behind.unmap(0, 0, 4);
            Due.due("behind", behind.wake(1), notes);
            Due.due("keeps none", behind.core(1, 2), 0);
            Due.due("counted", behind.count(9), notes);
            Due.due("has the generation", behind.core(1, 4), 1);
            behind.sleep(1);
            Due.due("not behind any more", behind.wake(1), 0);
        }
    }

    private static void comingForgetsNoneToFour() {
        for (int notes = 0; notes <= 4; notes++) {
            Subject x = Subject.mapped(2, 5);
            for (int page = 0; page < notes; page++) {
                x.look(1, page, false);
            }
            x.enter(1, 2);
            Subject behind = x.copy();
            Due.due("not behind", x.enter(1, 0), 0);
            Due.due("keeps all", x.core(1, 2), notes);
            behind.unmap(0, 0, 4);
            Due.due("to a space where it is not behind", behind.enter(1, 1), 0);
            Due.due("keeps all as yet", behind.core(1, 2), notes);
            Due.due("behind", behind.enter(1, 0), notes);
            Due.due("keeps none", behind.core(1, 2), 0);
            Due.due("counted", behind.count(9), notes);
            Due.due("has the generation", behind.core(1, 4), 1);
        }
    }

    private static void wakingAfterManyShoots() {
        Subject x = Subject.mapped(2, 2);
        x.look(1, 0, false);
        x.sleep(1);
        for (int k = 0; k < 40; k++) {
            x.remap(0, 0, 1, k, true);
        }
        Due.due("done without it", x.count(3), 40);
        Due.due("behind by forty", x.core(1, 4), 0);
        Due.due("forgets what was never changed", x.wake(1), 1);
        Due.due("not behind", x.core(1, 4), 40);
        Due.due("no call was left for it", x.take(1), NONE);
        Due.due("walks", x.look(1, 1, false), 39);
    }

    private static void comingIsToldOfTheSpaceItComesTo() {
        Subject x = Subject.mapped(2, 1);
        x.map(1, 0, 10, true);
        x.map(1, 1, 11, true);
        x.look(1, 0, false);
        x.enter(1, 1);
        x.look(1, 0, false);
        x.look(1, 1, false);
        x.enter(1, 2);
        x.unmap(0, 0, 0);
        x.remap(0, 1, 1, 12, true);
        Due.due("of space 1", x.enter(1, 1), 2);
        Due.due("that of space 0 stays", x.note(1, 0, 0), 0);
        Due.due("behind there still", x.core(1, 4), 0);
        Due.due("not here", x.core(1, 5), 1);
        Due.due("of space 0", x.enter(1, 0), 1);
        Due.due("counted", x.count(9), 3);
        Due.due("sees what is", x.look(1, 0, false), FAULT);
    }

    /** "A NOTE is STALE, if it is not the ENTRY now." */
    private static void staleByEachPart() {
        Subject x = new Subject();
        x.map(0, 0, 7, false);
        x.look(1, 0, false);
        Due.due("as it is", x.note(1, 0, 5), 0);
        Subject frame = x.copy();
        Subject writable = x.copy();
        Subject none = x.copy();
        frame.remap(0, 0, 0, 8, false);
        writable.remap(0, 0, 0, 7, true);
        none.unmap(0, 0, 0);
        for (Subject y : new Subject[] {frame, writable, none}) {
            Due.due("stale", y.note(1, 0, 5), 1);
            Due.due("its frame stays", y.note(1, 0, 2), 7);
            Due.due("nor is it writable", y.note(1, 0, 3), 0);
            Due.due("nor taken later", y.note(1, 0, 4), 2);
            Due.due("danger", y.danger(0, 0), 1);
            Due.due("goes by it", y.look(1, 0, false), 7);
            Due.due("how", y.how(), 2);
        }
        none.map(0, 0, 7, false);
        Due.due("the same again", none.note(1, 0, 5), 0);
        Due.due("no danger", none.danger(0, 0), 0);
        none.look(1, 0, false);
        Due.due("how", none.how(), 1);
    }

    /** map() is without a shoot: no core forgets what it noted ahead of it, and the note is stale still. */
    private static void staleWithoutAShoot() {
        for (int c = 0; c < 4; c++) {
            int other = (c + 1) % 4;
            Subject x = Subject.mapped(4, 1);
            x.look(c, 0, false);
            x.unmap(other, 0, 0);
            x.map(0, 0, 9, true);
            Due.due("keeps its note", x.core(c, 2), 1);
            Due.due("stale", x.note(c, 0, 5), 1);
            Due.due("one shoot", x.count(2), 1);
            Due.due("one generation", x.count(10), 1);
            Due.due("one call", x.core(c, 3), 1);
            Due.due("goes by what was", x.look(c, 0, true), 0);
            Due.due("who began it does not", x.look(other, 0, true), 9);
            x.take(c);
            Due.due("nor this one now", x.look(c, 0, true), 9);
        }
    }

    private static void hitsAndOldOnes() {
        Subject x = Subject.mapped(2, 2);
        x.look(1, 0, false);
        x.look(1, 1, false);
        x.unmap(0, 0, 0);
        int[][] want = {{1, 1}, {2, 1}, {3, 2}, {4, 2}};
        for (int i = 0; i < 4; i++) {
            x.look(1, i % 2, false);
            Due.due("hits", x.count(4), want[i][0]);
            Due.due("old ones", x.count(5), want[i][1]);
            Due.due("how", x.how(), i % 2 == 0 ? 2 : 1);
        }
        Due.due("walks", x.count(6), 2);
        Due.due("faults", x.count(7), 0);
        x.take(1);
        x.look(1, 0, false);
        Due.due("a fault is no hit", x.count(4), 4);
        Due.due("nor old", x.count(5), 2);
        Due.due("nor a walk", x.count(6), 2);
        Due.due("faults", x.count(7), 1);
    }

    /** With each note or none, and each entry: what a look answers and leaves. */
    private static void lookToReadAndToWrite() {
        int[][] looks = {
            // noted: -1 none, 0 read-only, 1 writable; entry likewise; to write; how it goes; notes afterwards
            {-1, -1, 0, 4, 0}, {-1, -1, 1, 4, 0}, {-1, 0, 0, 3, 1}, {-1, 0, 1, 4, 0}, {-1, 1, 0, 3, 1}, {-1, 1, 1, 3, 1},
            {0, -1, 0, 2, 1}, {0, -1, 1, 4, 0}, {0, 0, 0, 1, 1}, {0, 0, 1, 4, 0}, {0, 1, 0, 2, 1}, {0, 1, 1, 3, 1},
            {1, -1, 0, 2, 1}, {1, -1, 1, 2, 1}, {1, 0, 0, 2, 1}, {1, 0, 1, 2, 1}, {1, 1, 0, 1, 1}, {1, 1, 1, 1, 1}};
        for (int[] one : looks) {
            Subject x = notedAndNow(one[0], one[1]);
            String what = "noted " + one[0] + ", entry " + one[1] + ", to write " + one[2];
            Due.due(what + ": answer", x.look(1, 0, one[2] == 1), one[3] == 4 ? FAULT : 40);
            Due.due(what + ": how", x.how(), one[3]);
            Due.due(what + ": notes", x.core(1, 2), one[4]);
            Due.due(what + ": hits", x.count(4), one[3] < 3 ? 1 : 0);
            Due.due(what + ": old", x.count(5), one[3] == 2 ? 1 : 0);
            Due.due(what + ": faults", x.count(7), one[3] == 4 ? 1 : 0);
            if (one[3] == 3) {
                Due.due(what + ": noted now", x.note(1, 0, 4), x.count(1));
                Due.due(what + ": as it is", x.note(1, 0, 3), one[1]);
            }
        }
    }

    private static Subject notedAndNow(int noted, int now) {
        Subject x = new Subject();
        if (noted >= 0) {
            x.map(0, 0, 40, noted == 1);
            x.look(1, 0, false);
            if (now < 0) {
                x.unmap(0, 0, 0);
            } else if (now != noted) {
                x.remap(0, 0, 0, 40, now == 1);
            }
        } else if (now >= 0) {
            x.map(0, 0, 40, now == 1);
        }
        return x;
    }

    /** A note "of a SPACE and PAGE, STALE, and its CORE could go by it now (AWAKE, in the SPACE)". */
    private static void dangerNeedsEachPart() {
        Subject x = Subject.mapped(2, 2);
        x.map(1, 0, 9, true);
        x.look(1, 0, false);
        Due.due("not stale", x.danger(0, 0), 0);
        Subject asleep = x.copy();
        Subject elsewhere = x.copy();
        x.unmap(0, 0, 0);
        for (int i = 0; i < 48; i++) {
            Due.due("of that space and page alone", x.danger(i / 16, i % 16), i == 0 ? 1 : 0);
        }
        asleep.sleep(1);
        asleep.unmap(0, 0, 0);
        Due.due("stale, but asleep", asleep.note(1, 0, 5) * 10 + asleep.danger(0, 0), 10);
        elsewhere.enter(1, 1);
        elsewhere.unmap(0, 0, 0);
        Due.due("stale, but elsewhere", elsewhere.note(1, 0, 5) * 10 + elsewhere.danger(0, 0), 10);
        elsewhere.sleep(1);
        Due.due("both", elsewhere.danger(0, 0), 0);
        x.take(1);
        Due.due("from now on nobody", x.danger(0, 0), 0);
    }

    private static void dangerByEachCoreAndEachNote() {
        for (int c = 0; c < 4; c++) {
            for (int k = 0; k < 4; k++) {
                Subject x = Subject.mapped(4, 4);
                for (int page = 0; page < 4; page++) {
                    x.look(c, page, false);
                }
                x.unmap(c == 0 ? 1 : 0, 0, k);
                for (int page = 0; page < 4; page++) {
                    Due.due("core " + c + ", note " + k, x.danger(0, page), page == k ? 1 : 0);
                    Due.due("core " + c + ", note " + k, x.note(c, page, 5), page == k ? 1 : 0);
                }
            }
        }
    }

    private static void wasSoForEachNote() {
        Subject x = Subject.mapped(2, 4);
        for (int page = 0; page < 4; page++) {
            x.look(1, page, false);
        }
        x.sleep(1);
        for (int i = 0; i < 20; i++) {
            x.remap(0, 0, 2, 50 + i, true);
        }
        for (int k = 0; k < 4; k++) {
            Due.due("note " + k, x.wasSo(1, k), k == 2 ? 0 : 1);
        }
        x.clear(0, 0);
        for (int k = 0; k < 4; k++) {
            Due.due("cleared, note " + k, x.wasSo(1, k), k == 2 ? 0 : 1);
        }
    }
}
