/**
 * The boundary cases that the document names: "Terms" 4 (t4..), promises 33 to 37 (p33 .. p37). One test a sentence; its remark tells
 * the sentence.
 */
public final class EdgeSightTest {
    private static final int[] FAR = {Integer.MIN_VALUE, -1000, -1, 1001, 1000000, Integer.MAX_VALUE};
    // d has a behind 2 beats, b too behind 4.
    private static final String TWO = "start a;start b;dusk d;dusk e;way a to d in 1;way b to d in 3;";

    public static void main(String[] args) throws ReflectiveOperationException {
        Check.edges(EdgeSightTest.class);
        Check.close("EdgeSightTest");
    }

    private static void begun(Run x, int m, int k, int rows, int... first) {
        x.is(x.begun(m, k), rows);
        x.lie(first);
    }

    // ==== Terms 4: SIGHTS ====

    /** Terms 4: "SIGHTS, 20 at most": none, 20; not 21; those UNTOLD are among them. */
    static void t4TwentySightsAtMost() {
        Run x = Run.on(TWO);
        x.is(x.about(9), 0);
        for (int i = 0; i < 20; i++) {
            x.is(x.sight(2, 2, 5), i);
            x.is(x.about(9), i + 1);
        }
        x.is(x.sight(2, 2, 5), -1);
        x.is(x.sight(2, 3, 6), -1);
        x.is(x.about(9), 20);
        for (int i = 0; i < 20; i++) {
            x.is(x.untell(i), true);
        }
        x.is(x.sight(2, 2, 5), -1);
        x.is(x.about(9), 20);
        begun(x, 9, 0, 100, 0, 0);
    }

    /** Terms 4: each of 20 counts, the last one, too. */
    static void t4EachOf20Counts() {
        for (int other = 0; other < 20; other++) {
            Run x = Run.on(TWO);
            for (int i = 0; i < 20; i++) {
                x.sight(2, 2, i == other ? 4 : 5);
            }
            begun(x, 9, 0, 0);
            x.later(1);
            x.untell(other);
            begun(x, 9, 0, 0);
            begun(x, 9, 1, 10, 5, 0);
        }
    }

    /** Terms 4: "TOLD at a TIME (0 at first, goes on)". */
    static void t4TimeIs0AtFirst() {
        Run x = Run.on(TWO);
        x.is(x.about(10), 0);
        x.sight(2, 2, 5);
        begun(x, 9, -1, 100, 0, 0);
        begun(x, 9, 0, 10, 5, 0);
        x.later(7);
        x.sight(2, 4, 6);
        begun(x, 9, 6, 10, 5, 0);
        begun(x, 9, 7, 1, 5, 1);
    }

    /** Terms 4: "UNTOLD at a later one or the same": at the same it counts at no time. */
    static void t4UntoldAtALaterOneOrTheSame() {
        Run x = Run.on(TWO);
        x.later(3);
        x.sight(2, 2, 5);
        x.sight(2, 2, 5);
        x.is(x.untell(0), true);
        x.later(1);
        x.is(x.untell(1), true);
        for (int k = 0; k <= 5; k++) {
            x.is(x.begun(9, k), k == 3 ? 10 : 100);
        }
        // The first of both was UNTOLD at the same TIME: alone it never counts.
        Run y = Run.on(TWO);
        y.later(3);
        y.sight(2, 2, 5);
        y.untell(0);
        for (int k = 2; k <= 4; k++) {
            y.is(y.begun(9, k), 100);
        }
    }

    /** Terms 4: "behind so many BEATS (1 .. 60) of some ROW, begun with an empty sky, so many were at a dusk": 1 and 60. */
    static void t4Behind1To60Beats() {
        Run x = Run.on("start a;pond p 1;dusk d;way a to p in 1;way p to d in 1;");
        // d has one behind 3 beats, 8 behind 10 beats, 9 behind 11 and all that come: of 0 .. 9 the ROW itself.
        x.begin(0, 9);
        x.beats(9);
        x.sight(2, 60, 9);
        begun(x, 9, 0, 1, 9);
        x.untell(0);
        x.sight(2, 1, 0);
        begun(x, 9, 0, 10, 0);
        x.sight(2, 2, 0);
        begun(x, 9, 0, 10, 0);
        x.sight(2, 3, 1);
        begun(x, 9, 0, 9, 1);
        x.sight(2, 10, 8);
        begun(x, 9, 0, 2, 8);
        x.sight(2, 11, 9);
        begun(x, 9, 0, 1, 9);
        x.sight(2, 1, 1);
        begun(x, 9, 0, 0);
    }

    /** Terms 4: the same, where nobody comes by then, and where all come behind the 55th, the 60th BEAT. */
    static void t4Behind59And60Beats() {
        Run x = Run.on("start a;join j;join k;dusk d;way a to j in 9;way j to k in 9;");
        x.sight(3, 59, 0);
        x.sight(3, 60, 0);
        x.is(x.begun(9, 0), 10);
        // Set out in beat 1, on ways of 54 beats in all, then of 59.
        Run y = Run.on("start a;join b;join c;join e;join f;join g;dusk d;way a to b in 9;way b to c in 9;way c to e in 9;way e to f in 9;way f to g in 9;"
            + "way g to d in 9;");
        y.sight(6, 54, 0);
        y.is(y.begun(9, 0), 10);
        y.sight(6, 55, 4);
        begun(y, 9, 0, 1, 4);
        y.sight(6, 60, 4);
        begun(y, 9, 0, 1, 4);
        Run z = Run.on("start a;join b;join c;join e;join f;join g;join h;dusk d;way a to b in 9;way b to c in 9;way c to e in 9;way e to f in 9;"
            + "way f to g in 9;way g to h in 9;way h to d in 5;");
        z.sight(7, 59, 0);
        z.is(z.begun(9, 0), 10);
        z.sight(7, 60, 4);
        begun(z, 9, 0, 1, 4);
    }

    /** Terms 4: "As known at k those count that were TOLD at k or before, not UNTOLD at k or before": at k, one ahead, one behind. */
    static void t4AsKnownAtK() {
        Run x = Run.on(TWO);
        x.later(5);
        x.sight(2, 2, 5);
        x.later(5);
        x.untell(0);
        x.later(5);
        int[] times = {Integer.MIN_VALUE, -1, 0, 4, 5, 6, 9, 10, 11, 15, 100000, Integer.MAX_VALUE};
        for (int k : times) {
            x.is(x.begun(9, k), k >= 5 && k < 10 ? 10 : 100);
            x.is(x.sure(0, 9, k), k >= 5 && k < 10 ? 5 : -2);
        }
        // One that was not UNTOLD counts ever after.
        x.sight(2, 2, 6);
        for (int k : new int[] {14, 15, 16, 100000, Integer.MAX_VALUE}) {
            x.is(x.begun(9, k), k < 15 ? 100 : 10);
        }
    }

    /** Terms 4: "BEGUN with m (0 .. 9): ROWS of 0 .. m at each START": of no START, one, three; the first by START 0, then the next ones. */
    static void t4RowsOf0ToM() {
        String[] texts = {"dusk d;", "start a;dusk d;", "start a;start b;dusk d;", "start a;start b;start c;dusk d;"};
        int[][] firsts = {{}, {0}, {0, 0}, {0, 0, 0}};
        for (int starts = 0; starts <= 3; starts++) {
            Run x = Run.on(texts[starts]);
            int rows = 1;
            for (int m = 0; m <= 9; m++) {
                rows = 1;
                for (int i = 0; i < starts; i++) {
                    rows *= m + 1;
                }
                begun(x, m, 0, rows, firsts[starts]);
            }
        }
        Run x = Run.on("start a;start b;start c;dusk d;way a to d in 1;way b to d in 1;way c to d in 1;");
        x.sight(3, 2, 27);
        begun(x, 9, 0, 1, 9, 9, 9);
        begun(x, 8, 0, 0);
        x.untell(0);
        x.sight(3, 2, 10);
        // 1 0 9 is not so: 0 1 9 is the first.
        begun(x, 9, 0, 63, 0, 1, 9);
        begun(x, 3, 0, 0);
        begun(x, 4, 0, 6, 2, 4, 4);
    }

    // ==== Promises 33 to 37 ====

    /** Promise 33: "A SIGHT: its number; NONE, doing nothing, if one can't be (so many 0 .. 999,999)". */
    static void p33HowManyWereSeen() {
        Run x = Run.on(TWO);
        for (int many : new int[] {-1, 1000000, 1000001, Integer.MIN_VALUE, Integer.MAX_VALUE}) {
            x.is(x.sight(2, 2, many), -1);
        }
        x.is(x.about(9), 0);
        x.is(x.sight(2, 2, 0), 0);
        begun(x, 9, 0, 10, 0, 0);
        x.is(x.sight(2, 2, 999999), 1);
        begun(x, 9, 0, 0);
        x.is(x.sight(2, 2, 1000000), -1);
        x.is(x.about(9), 2);
    }

    /** Promise 33: "if one can't be": BEATS of 1 .. 60. */
    static void p33BeatsOf1To60() {
        Run x = Run.on(TWO);
        for (int beats : new int[] {0, -1, 61, 62, 100, Integer.MIN_VALUE, Integer.MAX_VALUE}) {
            x.is(x.sight(2, beats, 0), -1);
        }
        x.is(x.about(9), 0);
        x.is(x.sight(2, 1, 0), 0);
        x.is(x.sight(2, 60, 0), 1);
        begun(x, 9, 0, 1, 0, 0);
    }

    /** Promise 33: "if one can't be": a TOWER that is a dusk: of each sort. */
    static void p33AtADusk() {
        Run x = Run.on("start a;join b;split c;odd e;dusk d;pond f 1;fox g 1;bread h 1;wind i 1;dusk k;");
        for (int tower = 0; tower < 10; tower++) {
            x.is(x.sight(tower, 1, 0), tower == 4 ? 0 : tower == 9 ? 1 : -1);
        }
        x.is(x.sight(10, 1, 0), -1);
        for (int far : FAR) {
            x.is(x.sight(far, 1, 0), -1);
        }
        x.is(x.about(9), 2);
        Run none = new Run();
        none.is(none.sight(0, 1, 0), -1);
    }

    /** Promise 33: its number, as told, goes on behind those UNTOLD; in a new net from 0. */
    static void p33Numbers() {
        Run x = Run.on(TWO);
        x.is(x.sight(2, 2, 5), 0);
        x.untell(0);
        x.is(x.sight(2, 2, 5), 1);
        x.is(x.sight(0, 2, 5), -1);
        x.is(x.sight(2, 2, 6), 2);
        x.type(TWO);
        x.net();
        x.is(x.sight(2, 2, 7), 0);
        begun(x, 9, 0, 10, 7, 0);
    }

    /** Promise 34: "It is UNTOLD: true; false if it is so already, or there is none such". */
    static void p34Untell() {
        Run x = Run.on(TWO);
        x.is(x.untell(0), false);
        x.is(x.untell(-1), false);
        x.is(x.sight(2, 2, 5), 0);
        x.is(x.sight(2, 4, 6), 1);
        x.is(x.untell(2), false);
        for (int far : FAR) {
            x.is(x.untell(far), false);
        }
        x.is(x.begun(9, 0), 1);
        x.is(x.untell(1), true);
        x.is(x.untell(1), false);
        x.is(x.begun(9, 0), 10);
        x.is(x.untell(0), true);
        x.is(x.untell(0), false);
        x.is(x.about(9), 2);
    }

    /** Promise 34: UNTOLD again later it stays UNTOLD as of the first time. */
    static void p34UntoldOnce() {
        Run x = Run.on(TWO);
        x.sight(2, 2, 5);
        x.later(2);
        x.is(x.untell(0), true);
        x.later(2);
        x.is(x.untell(0), false);
        x.is(x.begun(9, 1), 10);
        x.is(x.begun(9, 2), 100);
        x.is(x.begun(9, 4), 100);
    }

    /** Promise 35: "So much later (0 .. 1000): the TIME; NONE, doing nothing, for another number". */
    static void p35Later() {
        Run x = new Run();
        x.is(x.later(0), 0);
        for (int by : new int[] {-1, 1001, 1002, Integer.MIN_VALUE, Integer.MAX_VALUE}) {
            x.is(x.later(by), -1);
        }
        x.is(x.about(10), 0);
        x.is(x.later(1), 1);
        x.is(x.later(1000), 1001);
        x.is(x.later(0), 1001);
        x.is(x.later(-1), -1);
        x.is(x.about(10), 1001);
    }

    /** Promise 35: "or if it would be above 100,000". */
    static void p35TimeUpTo100000() {
        Run x = Run.on(TWO);
        for (int i = 1; i <= 99; i++) {
            x.is(x.later(1000), 1000 * i);
        }
        x.is(x.later(999), 99999);
        x.is(x.later(2), -1);
        x.is(x.later(1000), -1);
        x.is(x.about(10), 99999);
        x.is(x.later(0), 99999);
        x.is(x.later(1), 100000);
        x.is(x.later(1), -1);
        x.is(x.later(1000), -1);
        x.is(x.later(0), 100000);
        x.is(x.sight(2, 2, 5), 0);
        x.is(x.begun(9, 99999), 100);
        x.is(x.begun(9, 100000), 10);
        x.net();
        x.is(x.about(10), 100000);
        Run y = new Run();
        for (int i = 1; i <= 100; i++) {
            y.is(y.later(1000), 1000 * i);
        }
        y.is(y.later(1), -1);
    }

    /** Promise 36: "BEGUN: how many ROWS; NONE if m can't be. The first lies there then, by STARTS (behind 0, NONE: nothing)". */
    static void p36Begun() {
        Run x = Run.on(TWO);
        begun(x, 9, 0, 100, 0, 0);
        for (int m : new int[] {-1, 10, 11, Integer.MIN_VALUE, Integer.MAX_VALUE}) {
            x.is(x.begun(2, 0), 9);
            x.lie(0, 0);
            x.is(x.begun(m, 0), -1);
            x.lie();
        }
        begun(x, 0, 0, 1, 0, 0);
        x.sight(2, 4, 18);
        begun(x, 9, 0, 1, 9, 9);
        begun(x, 8, 0, 0);
        x.sight(2, 4, 17);
        begun(x, 9, 0, 0);
        Run none = new Run();
        begun(none, 9, 0, 1);
        none.is(none.begun(10, 0), -1);
        Run alone = Run.on("dusk d;");
        alone.sight(0, 1, 0);
        begun(alone, 9, 0, 1);
        alone.sight(0, 1, 1);
        begun(alone, 9, 0, 0);
    }

    /** Promise 37: "SURE of a START: how many were begun there; -2 if it is not the same in all; NONE if there are no ROWS". */
    static void p37Sure() {
        Run x = Run.on(TWO);
        x.is(x.sure(0, 9, 0), -2);
        x.is(x.sure(1, 9, 0), -2);
        x.is(x.sure(0, 0, 0), 0);
        x.is(x.sure(1, 0, 0), 0);
        x.sight(2, 2, 9);
        x.is(x.sure(0, 9, 0), 9);
        x.is(x.sure(1, 9, 0), -2);
        x.is(x.sure(0, 8, 0), -1);
        x.is(x.sure(1, 8, 0), -1);
        x.later(1);
        x.sight(2, 4, 9);
        x.is(x.sure(1, 9, 1), 0);
        x.is(x.sure(1, 9, 0), -2);
        x.later(1);
        x.sight(3, 9, 1);
        x.is(x.sure(0, 9, 2), -1);
        x.is(x.sure(0, 9, 1), 9);
    }

    /** Promise 37: "-2 if it is not the same in all": of one ROW, of two, of three; of one START only. */
    static void p37SureOfTwoRows() {
        for (int many = 18; many >= 16; many--) {
            Run x = Run.on(TWO);
            x.sight(2, 4, many);
            x.is(x.begun(9, 0), 19 - many);
            x.is(x.sure(0, 9, 0), many == 18 ? 9 : -2);
            x.is(x.sure(1, 9, 0), many == 18 ? 9 : -2);
        }
        Run y = Run.on("start a;start b;split s;dusk d;way a to d in 1;way b to s in 1;way s to d in 1;");
        // a, and of b its half twice at most: 5 and 0 or 1.
        y.sight(3, 2, 5);
        y.sight(3, 3, 5);
        begun(y, 9, 0, 2, 5, 0);
        y.is(y.sure(0, 9, 0), 5);
        y.is(y.sure(1, 9, 0), -2);
        y.is(y.sure(1, 0, 0), -1);
    }

    /** Promise 37: not the same in all, though the same in the first and the last ROW. */
    static void p37SureInAllRows() {
        // Behind 2 beats an even a is at e and an odd one at d; b is at d then as many as it is.
        Run x = Run.on("start a;start b;odd o;dusk d;dusk e;way a to o in 1;way b to d in 2;way o to d in 1;way o to e in 1;");
        x.sight(3, 3, 3);
        // a 0: b 3; a 1: b 2; a 2: b 3; a 3: b 0; a 4 .. 8 even: b 3.
        begun(x, 9, 0, 7, 0, 3);
        x.is(x.sure(0, 9, 0), -2);
        x.is(x.sure(1, 9, 0), -2);
        x.sight(4, 3, 8);
        x.is(x.sure(0, 9, 0), 8);
        x.is(x.sure(1, 9, 0), 3);
    }

    /** Promise 37: "NONE .. or one can't be": no such START (by number of STARTS), m. */
    static void p37SureCantBe() {
        Run x = Run.on("join j;" + TWO);
        x.is(x.sure(0, 0, 0), 0);
        x.is(x.sure(1, 0, 0), 0);
        x.is(x.sure(2, 0, 0), -1);
        for (int far : FAR) {
            x.is(x.sure(far, 0, 0), -1);
            x.is(x.sure(0, far, 0), -1);
        }
        x.is(x.sure(0, -1, 0), -1);
        x.is(x.sure(0, 10, 0), -1);
        x.is(x.sure(0, 9, 0), -2);
        Run none = new Run();
        none.is(none.sure(0, 0, 0), -1);
        Run three = Run.on("start a;start b;start c;dusk d;way c to d in 1;");
        three.sight(3, 2, 4);
        three.is(three.sure(2, 9, 0), 4);
        three.is(three.sure(3, 9, 0), -1);
    }
}
