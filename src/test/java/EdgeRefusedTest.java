import java.util.List;

/**
 * What a refused call leaves unchanged ("NONE, doing nothing", "NONE, and nothing comes", false), and what a call that only asks leaves
 * unchanged: of two runs with the same calls one gets that call too; then both are asked for all that there is. Promises 2, 3, 6 to 39.
 */
public final class EdgeRefusedTest {
    private static final int FAR = Integer.MAX_VALUE;
    private static final int LOW = Integer.MIN_VALUE;

    public static void main(String[] args) throws ReflectiveOperationException {
        Check.edges(EdgeRefusedTest.class);
        Check.close("EdgeRefusedTest");
    }

    /** Something in all that there is: a fault of the latest text and a text on the tape, too. */
    private static Run rich() {
        Run x = Run.filled();
        x.type("start q;!");
        x.net();
        x.type("draw 77;");
        return x;
    }

    private static void same(String what, Run x, Run untouched) {
        List<String> got = x.all();
        List<String> want = untouched.all();
        Check.due(what + ": as many are told", got.size(), want.size());
        for (int i = 0; i < got.size() && i < want.size(); i++) {
            Check.due(what + ": " + got.get(i) + ", without that call " + want.get(i), got.get(i).equals(want.get(i)), true);
        }
    }

    /** Calls that change nothing at all. */
    private static void changeNothing(Run.Deed... deeds) {
        for (int i = 0; i < deeds.length; i++) {
            Run x = rich();
            deeds[i].on(x);
            same("deed " + i, x, rich());
        }
    }

    /** Calls that change nothing but what lies there: the same is put there in both runs. */
    private static void changeWhatLiesAlone(Run.Deed... deeds) {
        for (int i = 0; i < deeds.length; i++) {
            Run x = rich();
            deeds[i].on(x);
            x.begun(2, -1);
            Run untouched = rich();
            untouched.begun(2, -1);
            same("deed " + i, x, untouched);
        }
    }

    /** What the runs of this test have at first, so that it is seen if something of it goes. */
    static void p04TheRichRun() {
        Run x = rich();
        int[] about = {4, 2, 3, 2, 2, 756, 4, 1, 1, 2, 4, 8, 5, 2};
        for (int what = 0; what < about.length; what++) {
            x.is(x.about(what), about[what]);
        }
        x.is(x.fault(0), 1);
        x.is(x.fault(1), 8);
        x.lie(0, 1);
        // Begun at a and flown for two beats they are on j's way; a gust of 756 is on way 0. Three wait at b.
        x.geeseAre(8, 0, 5, 3, 0, 0);
        x.is(x.says(0), 15);
        x.is(x.says(1), 7008);
        List<String> all = rich().all();
        List<String> again = rich().all();
        Check.due("all of it is told alike", all.equals(again), true);
        Check.due("some 200 answers tell it", all.size() > 200, true);
    }

    /** Promise 2: "NONE, and nothing comes, if there would be more than 1,600". */
    static void p02FeedRefused() {
        for (int length : new int[] {1581, 1590, 1600}) {
            Run x = Run.on("start a;");
            Run untouched = Run.on("start a;");
            for (Run run : new Run[] {x, untouched}) {
                run.type("draw 5;" + " ".repeat(length - 7));
            }
            x.is(x.feed(0x21212121, 0x21212121, 0x21212121, 0x21212121, 0x21212121), -1);
            same("feed refused", x, untouched);
        }
    }

    /** Promise 3: "NONE, doing nothing, if it has not so many, or n is below 0". */
    static void p03EndRefused() {
        changeNothing(x -> x.is(x.end(9), -1), x -> x.is(x.end(-1), -1), x -> x.is(x.end(FAR), -1), x -> x.is(x.end(LOW), -1),
            x -> x.is(x.end(8), 8));
    }

    /** Promise 5 to 9, 40: calls that only ask, refused or not. */
    static void p05AskedForWhatIs() {
        changeNothing(x -> x.is(x.fault(0), 1), x -> x.is(x.fault(2), -1), x -> x.is(x.tower(0, 2), 0), x -> x.is(x.tower(4, 0), -1),
            x -> x.is(x.tower(0, 4), -1), x -> x.is(x.way(2, 0), 2), x -> x.is(x.way(3, 0), -1), x -> x.is(x.way(0, 4), -1),
            x -> x.is(x.flock(0, 1), 0), x -> x.is(x.flock(0, 13), -1), x -> x.is(x.flock(3, 1), -1), x -> x.is(x.geese(0), 8),
            x -> x.is(x.geese(6), -1), x -> x.is(x.about(14), -1), x -> x.is(x.about(0), 4), x -> x.is(x.lies(0), 0), x -> x.is(x.lies(2), -1));
    }

    /** Promise 10: "NONE, doing nothing, if one can't be". */
    static void p10BeginRefused() {
        changeNothing(x -> x.is(x.begin(0, 0), -1), x -> x.is(x.begin(0, 1000), -1), x -> x.is(x.begin(0, -1), -1), x -> x.is(x.begin(2, 1), -1),
            x -> x.is(x.begin(-1, 1), -1), x -> x.is(x.begin(FAR, FAR), -1), x -> x.is(x.begin(LOW, LOW), -1));
    }

    /** Promise 11: "NONE, doing nothing, for another number". */
    static void p11BeatsRefused() {
        changeNothing(x -> x.is(x.beats(-1), -1), x -> x.is(x.beats(61), -1), x -> x.is(x.beats(FAR), -1), x -> x.is(x.beats(LOW), -1));
    }

    /** Promise 11: "NONE, doing nothing, .. if there would be more than 1,000". */
    static void p11BeatsRefusedAbove1000() {
        Run.Deed fly = x -> {
            for (int i = 0; i < 16; i++) {
                x.beats(60);
            }
            x.beats(39);
            x.begin(0, 3);
            x.begin(0, 4);
            x.undo();
        };
        for (int n : new int[] {2, 3, 60}) {
            Run x = Run.on("start a;dusk d;way a to d in 2;");
            Run untouched = Run.on("start a;dusk d;way a to d in 2;");
            fly.on(x);
            fly.on(untouched);
            x.is(x.beats(n), -1);
            same("beats(" + n + ") refused", x, untouched);
        }
    }

    /** Promise 12: "NONE, doing nothing, without WAYS". */
    static void p12GustRefused() {
        Run.Deed before = x -> {
            x.begin(0, 3);
            x.beats(0);
            x.undo();
            x.image(0);
        };
        Run x = Run.on("start a;dusk d;draw 7;");
        Run untouched = Run.on("start a;dusk d;draw 7;");
        before.on(x);
        before.on(untouched);
        x.is(x.gust(), -1);
        same("gust refused", x, untouched);
    }

    /** Promises 13, 14: "false if there is none" to be taken back, or to be done again. */
    static void p13UndoAndRedoRefused() {
        Run x = Run.on("start a;dusk d;way a to d in 2;");
        Run untouched = Run.on("start a;dusk d;way a to d in 2;");
        x.is(x.undo(), false);
        x.is(x.redo(), false);
        same("of none", x, untouched);
        Run y = Run.on("start a;dusk d;way a to d in 2;");
        Run z = Run.on("start a;dusk d;way a to d in 2;");
        for (Run run : new Run[] {y, z}) {
            run.begin(0, 3);
            run.beats(1);
        }
        y.is(y.redo(), false);
        same("redo of none", y, z);
        Run v = Run.on("start a;dusk d;way a to d in 2;");
        Run w = Run.on("start a;dusk d;way a to d in 2;");
        for (Run run : new Run[] {v, w}) {
            run.begin(0, 3);
            run.undo();
        }
        v.is(v.undo(), false);
        same("undo of none", v, w);
    }

    /** Promises 13, 14: what is done again is as if it had not been taken back. */
    static void p14UndoneAndRedone() {
        changeNothing(x -> {
            x.is(x.undo(), true);
            x.is(x.redo(), true);
        }, x -> {
            for (int i = 0; i < 4; i++) {
                x.is(x.undo(), true);
            }
            x.is(x.undo(), false);
            for (int i = 0; i < 4; i++) {
                x.is(x.redo(), true);
            }
        });
    }

    /** Promise 15: "NONE, doing nothing, if one can't be". */
    static void p15RowRefused() {
        changeNothing(x -> x.is(x.row(0, 1000), -1), x -> x.is(x.row(0, -1), -1), x -> x.is(x.row(2, 5), -1), x -> x.is(x.row(-1, 5), -1),
            x -> x.is(x.row(FAR, FAR), -1), x -> x.is(x.row(0, LOW), -1));
    }

    /** Promises 16 to 19, 22 to 28: what is reckoned changes nothing, refused or not. */
    static void p16Reckonings() {
        changeNothing(x -> x.is(x.reckon(3, 9), 15), x -> x.is(x.reckon(2, 9), -1), x -> x.is(x.reckon(3, 101), -1), x -> x.is(x.still(), 4),
            x -> x.is(x.says(0), 15), x -> x.is(x.says(2), 0), x -> x.is(x.wrong(0, 3, 9), 0), x -> x.is(x.wrong(1, 3, 9), 12),
            x -> x.is(x.wrong(0, 31, 9), -2), x -> x.is(x.wrong(0, 100, 9), -1), x -> x.is(x.loss(0, 1, 3, 9), 1), x -> x.is(x.loss(0, 10, 3, 9), -1),
            x -> x.is(x.blind(3, 9), 0), x -> x.is(x.blind(2, 9), -1), x -> x.is(x.adds(0, 3, 9, 9, 0), 0), x -> x.is(x.adds(0, 3, 41, 9, 0), -1),
            x -> x.is(x.paths(0, 3, 2), 1), x -> x.is(x.paths(0, 3, 61), -1), x -> x.is(x.meet(0, 1, 3), -1), x -> x.is(x.meet(4, 1, 3), -1),
            x -> x.is(x.spread(0, 3), 1), x -> x.is(x.spread(0, 4), -1), x -> x.is(x.ring(), 0));
    }

    /** Promises 20, 21, 31, 36: but for what lies there nothing is changed, refused or not; of MEND the WAYS' BEATS neither. */
    static void p20WhatLiesAlone() {
        changeWhatLiesAlone(x -> x.is(x.against(0, 3, 9), -1), x -> x.is(x.against(1, 3, 9), 4), x -> x.is(x.against(1, 31, 9), -2),
            x -> x.is(x.against(2, 3, 9), -1), x -> x.is(x.mend(0, 3, 9), 0), x -> x.is(x.mend(0, 3, 3), 1), x -> x.is(x.mend(0, 3, 2), -1),
            x -> x.is(x.mend(1, 3, 9), -1), x -> x.is(x.mend(0, 4, 9), -2), x -> x.is(x.mend(2, 3, 9), -1), x -> x.is(x.chain(), 2),
            x -> x.is(x.begun(9, 2), 5), x -> x.is(x.begun(10, 2), -1));
    }

    /** Promise 29: "NONE, doing nothing, if one can't be, or there are 4". */
    static void p29PairRefused() {
        changeNothing(x -> x.is(x.pair(1000, 0), -1), x -> x.is(x.pair(0, 1000), -1), x -> x.is(x.pair(-1, 0), -1), x -> x.is(x.pair(0, -1), -1));
        Run x = rich();
        Run untouched = rich();
        for (Run run : new Run[] {x, untouched}) {
            for (int i = 0; i < 3; i++) {
                run.pair(5, 3);
            }
        }
        x.is(x.pair(1, 2), -1);
        same("a fifth pair", x, untouched);
    }

    /** Promise 33: "NONE, doing nothing, if one can't be .., or there are 20". */
    static void p33SightRefused() {
        changeNothing(x -> x.is(x.sight(2, 1, 0), -1), x -> x.is(x.sight(4, 1, 0), -1), x -> x.is(x.sight(3, 0, 0), -1),
            x -> x.is(x.sight(3, 61, 0), -1), x -> x.is(x.sight(3, 1, -1), -1), x -> x.is(x.sight(3, 1, 1000000), -1));
        Run x = rich();
        Run untouched = rich();
        for (Run run : new Run[] {x, untouched}) {
            for (int i = 2; i < 20; i++) {
                run.sight(3, 9, 4);
            }
        }
        x.is(x.sight(3, 9, 5), -1);
        same("a twenty-first sight", x, untouched);
    }

    /** Promise 34: "false if it is so already, or there is none such". */
    static void p34UntellRefused() {
        changeNothing(x -> x.is(x.untell(1), false), x -> x.is(x.untell(2), false), x -> x.is(x.untell(-1), false), x -> x.is(x.untell(19), false),
            x -> x.is(x.untell(20), false), x -> x.is(x.untell(FAR), false), x -> x.is(x.untell(LOW), false));
    }

    /** Promise 35: "NONE, doing nothing, for another number, or if it would be above 100,000". */
    static void p35LaterRefused() {
        changeNothing(x -> x.is(x.later(-1), -1), x -> x.is(x.later(1001), -1), x -> x.is(x.later(FAR), -1), x -> x.is(x.later(LOW), -1),
            x -> x.is(x.later(0), 4));
        Run x = Run.on("start a;dusk d;way a to d in 2;");
        Run untouched = Run.on("start a;dusk d;way a to d in 2;");
        for (Run run : new Run[] {x, untouched}) {
            for (int i = 0; i < 99; i++) {
                run.later(1000);
            }
            run.later(500);
        }
        x.is(x.later(501), -1);
        same("above 100,000", x, untouched);
    }

    /** Promise 37: SURE changes nothing, refused or not: what lies there stays, too. */
    static void p37SureChangesNothing() {
        changeNothing(x -> x.is(x.sure(0, 9, 2), -2), x -> x.is(x.sure(0, 0, 2), -1), x -> x.is(x.sure(2, 9, 2), -1), x -> x.is(x.sure(0, 10, 2), -1));
    }

    /** Promise 38: "NONE if there is none such": nothing is kept then. */
    static void p38ImageRefused() {
        changeNothing(x -> x.is(x.image(-1), -1), x -> x.is(x.image(3), -1), x -> x.is(x.image(FAR), -1), x -> x.is(x.image(LOW), -1));
    }

    /** Promise 39: "NONE, doing nothing, if nothing was". */
    static void p39BackRefused() {
        changeNothing(x -> x.is(x.back(0), -1), x -> x.is(x.back(2), -1), x -> x.is(x.back(-1), -1), x -> x.is(x.back(3), -1),
            x -> x.is(x.back(FAR), -1), x -> x.is(x.back(LOW), -1));
    }
}
