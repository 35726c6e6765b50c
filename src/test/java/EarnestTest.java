/** Promises 6 to 14 and 38 to 40: what goes on in earnest, undone, kept in boxes. */
public final class EarnestTest {
    public static void main(String[] args) {
        begin();
        startsAreNumberedAlone();
        beats();
        flocksJoin();
        split();
        odd();
        fox();
        bread();
        wind();
        pond();
        dusk();
        withoutWay();
        order();
        gust();
        farthest();
        undo();
        fortyActs();
        boxes();
        about();
        Check.close("EarnestTest");
    }

    /** Begun, bred are on ways, there, lost, taken. */
    private static void geese(String what, GeeseSums x, int... want) {
        for (int i = 0; i < 6; i++) {
            Check.due(what + ": geese(" + i + ")", x.geese(i), want[i]);
        }
        Check.due(what + ": geese(6)", x.geese(6), -1);
        Check.due(what + ": geese(-1)", x.geese(-1), -1);
    }

    private static void begin() {
        GeeseSums x = Check.on("start a;start b;dusk d;way a to d in 2;");
        Check.due("begin(0, 0)", x.begin(0, 0), -1);
        Check.due("begin(0, 1000)", x.begin(0, 1000), -1);
        Check.due("begin(0, -1)", x.begin(0, -1), -1);
        Check.due("begin(2, 1)", x.begin(2, 1), -1);
        Check.due("begin(-1, 1)", x.begin(-1, 1), -1);
        Check.due("no act", x.about(6), 0);
        Check.due("begin(0, 1)", x.begin(0, 1), 1);
        Check.due("begin(0, 999)", x.begin(0, 999), 1000);
        Check.due("begin(1, 7)", x.begin(1, 7), 7);
        Check.due("acts", x.about(6), 3);
        Check.due("waits at a", x.tower(0, 2), 1000);
        Check.due("waits at b", x.tower(1, 2), 7);
        Check.due("no flock came yet", x.tower(0, 3), 0);
        geese("begun", x, 1007, 0, 0, 1007, 0, 0);
        x.beats(1);
        Check.due("one flock of both", x.tower(0, 3), 1);
        Check.due("a is left", x.tower(0, 2), 0);
        geese("b has no way", x, 1007, 0, 1000, 0, 7, 0);
        Check.due("waits anew", x.begin(0, 3), 3);
    }

    private static void startsAreNumberedAlone() {
        GeeseSums x = Check.on("join j;start a;dusk d;start b;way a to d in 1;way b to d in 1;");
        Check.due("begin(1, 4)", x.begin(1, 4), 4);
        Check.due("waits at b", x.tower(3, 2), 4);
        Check.due("begin(0, 5)", x.begin(0, 5), 5);
        Check.due("waits at a", x.tower(1, 2), 5);
        Check.due("begin(2, 5)", x.begin(2, 5), -1);
        Check.due("row(1, 6)", x.row(1, 6), 0);
        Check.due("row(2, 6)", x.row(2, 6), -1);
        Check.due("reckon", x.reckon(2, 2), 6);
    }

    private static void beats() {
        GeeseSums x = Check.on("start a;dusk d;way a to d in 3;");
        x.begin(0, 5);
        Check.due("beats(-1)", x.beats(-1), -1);
        Check.due("beats(61)", x.beats(61), -1);
        Check.due("no act", x.about(6), 1);
        Check.due("beats(0)", x.beats(0), 0);
        Check.due("an act", x.about(6), 2);
        Check.due("still there", x.tower(0, 2), 5);
        Check.due("beats(1)", x.beats(1), 1);
        Check.due("three left", x.flock(0, 3), 5);
        Check.due("on it", x.way(0, 3), 5);
        x.begin(0, 2);
        Check.due("beats(1)", x.beats(1), 2);
        Check.due("two left", x.flock(0, 2), 5);
        Check.due("three left", x.flock(0, 3), 2);
        Check.due("one left", x.flock(0, 1), 0);
        Check.due("twelve left", x.flock(0, 12), 0);
        Check.due("none left", x.flock(0, 0), -1);
        Check.due("thirteen left", x.flock(0, 13), -1);
        Check.due("no such way", x.flock(1, 1), -1);
        Check.due("on it", x.way(0, 3), 7);
        Check.due("beats(2)", x.beats(2), 4);
        Check.due("at d", x.tower(1, 2), 5);
        Check.due("on it", x.way(0, 3), 2);
        Check.due("beats(60)", x.beats(60), 64);
        Check.due("at d", x.tower(1, 2), 7);
        Check.due("two flocks", x.tower(1, 3), 2);
        for (int i = 0; i < 15; i++) {
            Check.due("beats(60)", x.beats(60), 124 + 60 * i);
        }
        Check.due("964 and 37", x.beats(37), -1);
        Check.due("about(4)", x.about(4), 964);
        Check.due("964 and 36", x.beats(36), 1000);
        Check.due("a thousand and 1", x.beats(1), -1);
        Check.due("a thousand and 0", x.beats(0), 1000);
        Check.due("tower(2, 0)", x.tower(2, 0), -1);
        Check.due("tower(-1, 0)", x.tower(-1, 0), -1);
        Check.due("tower(0, 4)", x.tower(0, 4), -1);
        Check.due("tower(0, -1)", x.tower(0, -1), -1);
    }

    private static void flocksJoin() {
        GeeseSums x = Check.on("start a;start b;join j;odd o;dusk d;dusk e;way a to j in 2;way b to j in 1;way j to o in 1;way o to d in 1;way o to e in 1;");
        x.begin(0, 1);
        x.beats(1);
        x.begin(1, 2);
        x.beats(2);
        Check.due("one flock at j", x.tower(2, 3), 1);
        Check.due("three together", x.flock(2, 1), 3);
        x.beats(2);
        Check.due("odd together", x.tower(4, 2), 3);
        Check.due("not even", x.tower(5, 2), 0);
        // A way may lead to a start: who comes there flies on with those that wait.
        GeeseSums y = Check.on("start a;start b;dusk d;way a to b in 1;way b to d in 1;");
        y.begin(0, 2);
        y.beats(1);
        y.begin(1, 3);
        Check.due("three wait", y.tower(1, 2), 3);
        y.beats(1);
        Check.due("one flock of five", y.flock(1, 1), 5);
        Check.due("one flock came", y.tower(1, 3), 1);
    }

    private static void split() {
        GeeseSums x = Check.on("start a;split s;dusk d;dusk e;way a to s in 1;way s to d in 1;way s to e in 2;");
        x.begin(0, 5);
        x.beats(2);
        Check.due("one circles", x.tower(1, 2), 1);
        Check.due("two on the first", x.way(1, 3), 2);
        Check.due("two on the second", x.flock(2, 2), 2);
        x.begin(0, 3);
        x.beats(2);
        Check.due("none circles", x.tower(1, 2), 0);
        Check.due("two more", x.flock(1, 1), 2);
        x.begin(0, 1);
        x.beats(2);
        Check.due("one alone circles", x.tower(1, 2), 1);
        Check.due("none set out", x.way(1, 3), 0);
        Check.due("three flocks came", x.tower(1, 3), 3);
        x.beats(9);
        Check.due("it circles on", x.tower(1, 2), 1);
        Check.due("three flocks came, no more", x.tower(1, 3), 3);
        geese("split", x, 9, 0, 0, 9, 0, 0);
        // With one way the second half is lost, with none both.
        GeeseSums y = Check.on("start a;split s;dusk d;way a to s in 1;way s to d in 1;");
        y.begin(0, 7);
        y.beats(2);
        geese("one way", y, 7, 0, 3, 1, 3, 0);
        GeeseSums z = Check.on("start a;split s;way a to s in 1;");
        z.begin(0, 7);
        z.beats(2);
        geese("no way", z, 7, 0, 0, 1, 6, 0);
    }

    private static void odd() {
        GeeseSums x = Check.on("start a;odd o;dusk d;dusk e;way a to o in 1;way o to d in 1;way o to e in 1;");
        x.begin(0, 3);
        x.beats(2);
        Check.due("odd", x.way(1, 3), 3);
        x.begin(0, 4);
        x.beats(2);
        Check.due("even", x.way(2, 3), 4);
        Check.due("odd there", x.tower(2, 2), 3);
        GeeseSums y = Check.on("start a;odd o;dusk d;way a to o in 1;way o to d in 1;");
        y.begin(0, 3);
        y.beats(1);
        y.begin(0, 4);
        y.beats(5);
        geese("even without way", y, 7, 0, 0, 3, 4, 0);
    }

    private static void fox() {
        GeeseSums x = Check.on("start a;fox f 3;dusk d;way a to f in 1;way f to d in 1;");
        x.begin(0, 5);
        x.beats(2);
        Check.due("the rest", x.way(1, 3), 2);
        geese("fox", x, 5, 0, 2, 0, 0, 3);
        x.begin(0, 3);
        x.beats(1);
        x.begin(0, 2);
        x.beats(1);
        Check.due("all of three", x.way(1, 3), 0);
        x.beats(1);
        geese("all of two", x, 10, 0, 0, 2, 0, 8);
        Check.due("a flock of none is none", x.tower(2, 3), 1);
        Check.due("flocks at the fox", x.tower(1, 3), 3);
    }

    private static void bread() {
        GeeseSums x = Check.on("start a;bread k 2;dusk d;way a to k in 1;way k to d in 1;");
        x.beats(3);
        geese("no flock, no bread", x, 0, 0, 0, 0, 0, 0);
        x.begin(0, 1);
        x.beats(2);
        Check.due("so many more", x.way(1, 3), 3);
        geese("bread", x, 1, 2, 3, 0, 0, 0);
        GeeseSums y = Check.on("start a;bread k 2;way a to k in 1;");
        y.begin(0, 1);
        y.beats(2);
        geese("bread without way", y, 1, 2, 0, 0, 3, 0);
    }

    private static void wind() {
        GeeseSums x = Check.on("start a;wind w 4;dusk d;way a to w in 1;way w to d in 1;");
        x.begin(0, 11);
        x.beats(2);
        Check.due("eight fly on", x.way(1, 3), 8);
        geese("wind", x, 11, 0, 8, 0, 3, 0);
        x.begin(0, 3);
        x.beats(2);
        geese("all of three", x, 14, 0, 0, 8, 6, 0);
        x.begin(0, 4);
        x.beats(2);
        geese("none of four", x, 18, 0, 4, 8, 6, 0);
    }

    private static void pond() {
        GeeseSums x = Check.on("start a;pond p 3;dusk d;way a to p in 1;way p to d in 5;");
        x.begin(0, 2);
        x.beats(2);
        Check.due("two stay", x.tower(1, 2), 2);
        x.begin(0, 6);
        x.beats(2);
        Check.due("three fly on", x.flock(1, 5), 3);
        Check.due("five stay", x.tower(1, 2), 5);
        Check.due("two flocks", x.tower(1, 3), 2);
        x.beats(1);
        Check.due("three more without a flock", x.flock(1, 5), 3);
        Check.due("two flocks still", x.tower(1, 3), 2);
        Check.due("two stay", x.tower(1, 2), 2);
        x.beats(9);
        geese("pond", x, 8, 0, 0, 8, 0, 0);
        GeeseSums y = Check.on("start a;pond p 3;way a to p in 1;");
        y.begin(0, 7);
        y.beats(2);
        geese("three lost", y, 7, 0, 0, 4, 3, 0);
        y.beats(2);
        geese("six lost", y, 7, 0, 0, 1, 6, 0);
    }

    private static void dusk() {
        GeeseSums x = Check.on("start a;dusk d;way a to d in 1;");
        x.begin(0, 2);
        x.beats(1);
        x.begin(0, 5);
        x.beats(1);
        Check.due("two stay", x.tower(1, 2), 2);
        x.beats(9);
        Check.due("seven stay", x.tower(1, 2), 7);
        Check.due("two flocks", x.tower(1, 3), 2);
    }

    private static void withoutWay() {
        GeeseSums x = Check.on("start a;join j;way a to j in 1;");
        x.begin(0, 5);
        x.beats(2);
        geese("join without way", x, 5, 0, 0, 0, 5, 0);
        GeeseSums y = Check.on("start a;odd o;fox f 1;wind w 2;way a to o in 1;way o to f in 1;way o to w in 1;");
        y.begin(0, 5);
        y.beats(1);
        y.begin(0, 6);
        y.beats(5);
        geese("fox and wind without way", y, 11, 0, 0, 0, 10, 1);
    }

    private static void order() {
        // A ring in which each beat all move by one way, whatever their towers' numbers are.
        GeeseSums x = Check.on("start a;join j;join k;way a to k in 1;way j to k in 1;way k to j in 1;");
        x.begin(0, 4);
        x.beats(2);
        Check.due("on k's way", x.way(2, 3), 4);
        x.beats(1);
        Check.due("on j's way", x.way(1, 3), 4);
        Check.due("not on k's", x.way(2, 3), 0);
        x.beats(60);
        geese("none is lost", x, 4, 0, 4, 0, 0, 0);
    }

    private static void gust() {
        GeeseSums x = Check.on("start a;start b;dusk d;way a to d in 3;way b to d in 3;draw 999;");
        x.begin(0, 5);
        x.begin(1, 6);
        x.beats(1);
        // 999 * 137 + 71 = 136934
        Check.due("the way", x.gust(), 0);
        Check.due("seed", x.about(5), 934);
        Check.due("farther", x.flock(0, 4), 5);
        Check.due("no more here", x.flock(0, 3), 0);
        Check.due("the other way", x.flock(1, 3), 6);
        // 934 * 137 + 71 = 128029
        Check.due("the next way", x.gust(), 1);
        Check.due("seed", x.about(5), 29);
        Check.due("farther", x.flock(1, 4), 6);
        Check.due("acts", x.about(6), 5);
        x.beats(3);
        Check.due("none there yet", x.tower(2, 2), 0);
        x.beats(1);
        Check.due("all there", x.tower(2, 2), 11);
        GeeseSums y = Check.on("start a;draw 5;");
        Check.due("without ways", y.gust(), -1);
        Check.due("seed stays", y.about(5), 5);
        Check.due("no act", y.about(6), 0);
        y.begin(0, 1);
        y.undo();
        y.gust();
        Check.due("still to be redone", y.about(7), 1);
    }

    private static void farthest() {
        GeeseSums x = Check.on("start a;dusk d;way a to d in 9;");
        x.begin(0, 5);
        x.beats(1);
        x.begin(0, 6);
        x.beats(1);
        Check.due("eight left", x.flock(0, 8), 5);
        Check.due("nine left", x.flock(0, 9), 6);
        x.gust();
        x.gust();
        x.gust();
        Check.due("eleven left", x.flock(0, 11), 5);
        Check.due("twelve left", x.flock(0, 12), 6);
        x.gust();
        Check.due("all twelve left", x.flock(0, 12), 11);
        x.gust();
        Check.due("and no farther", x.flock(0, 12), 11);
        Check.due("all on it", x.way(0, 3), 11);
        x.beats(11);
        Check.due("one left", x.flock(0, 1), 11);
        x.gust();
        Check.due("two left", x.flock(0, 2), 11);
        Check.due("no one", x.flock(0, 1), 0);
        x.beats(2);
        Check.due("there, as one flock", x.tower(1, 3), 1);
    }

    private static void undo() {
        GeeseSums x = Check.on("start a;dusk d;way a to d in 2;draw 3;");
        Check.due("nothing to undo", x.undo(), false);
        Check.due("nothing to redo", x.redo(), false);
        x.begin(0, 4);
        x.beats(1);
        x.gust();
        x.beats(5);
        Check.due("undo beats", x.undo(), true);
        Check.due("beats", x.about(4), 1);
        Check.due("seed", x.about(5), 482);
        Check.due("three left", x.flock(0, 3), 4);
        Check.due("no flock at d", x.tower(1, 3), 0);
        Check.due("undo gust", x.undo(), true);
        Check.due("seed", x.about(5), 3);
        Check.due("two left", x.flock(0, 2), 4);
        Check.due("undoable", x.about(6), 2);
        Check.due("redoable", x.about(7), 2);
        Check.due("redo gust", x.redo(), true);
        Check.due("seed", x.about(5), 482);
        Check.due("redo beats", x.redo(), true);
        Check.due("at d", x.tower(1, 2), 4);
        Check.due("redo of none", x.redo(), false);
        x.undo();
        x.undo();
        x.undo();
        Check.due("waits", x.tower(0, 2), 4);
        Check.due("undo begin", x.undo(), true);
        geese("begun was taken back", x, 0, 0, 0, 0, 0, 0);
        Check.due("undo of none", x.undo(), false);
        Check.due("redo begin", x.redo(), true);
        Check.due("waits", x.tower(0, 2), 4);
        Check.due("another act", x.begin(0, 1), 5);
        Check.due("redo no more", x.redo(), false);
        Check.due("redoable", x.about(7), 0);
        Check.due("undoable", x.about(6), 2);
        x.undo();
        x.begin(0, 0);
        x.begin(1, 1);
        x.beats(61);
        x.row(0, 5);
        x.image(0);
        Check.due("what is no act leaves redo", x.redo(), true);
        Check.due("row is no act", x.row(0, 5), 5);
        x.undo();
        x.beats(0);
        Check.due("no beats are an act", x.redo(), false);
    }

    private static void fortyActs() {
        GeeseSums x = Check.on("start a;dusk d;way a to d in 2;");
        for (int i = 1; i <= 45; i++) {
            x.begin(0, i);
            Check.due("undoable", x.about(6), Math.min(i, 40));
        }
        int waiting = 45 * 46 / 2;
        for (int i = 45; i > 5; i--) {
            Check.due("undo " + i, x.undo(), true);
            waiting -= i;
            Check.due("waits", x.tower(0, 2), waiting);
        }
        Check.due("the oldest went", x.undo(), false);
        Check.due("the first five stay", x.tower(0, 2), 15);
        Check.due("redoable", x.about(7), 40);
        for (int i = 6; i <= 45; i++) {
            Check.due("redo " + i, x.redo(), true);
            waiting += i;
            Check.due("waits", x.tower(0, 2), waiting);
        }
        Check.due("redo of none", x.redo(), false);
        Check.due("undoable", x.about(6), 40);
    }

    private static void boxes() {
        GeeseSums x = Check.on("start a;dusk d;way a to d in 2;draw 3;");
        Check.due("image(3)", x.image(3), -1);
        Check.due("image(-1)", x.image(-1), -1);
        Check.due("back(0)", x.back(0), -1);
        x.begin(0, 4);
        x.beats(1);
        Check.due("image(2)", x.image(2), 1);
        Check.due("no act", x.about(6), 2);
        x.gust();
        x.beats(10);
        x.undo();
        Check.due("back(0)", x.back(0), -1);
        Check.due("back(3)", x.back(3), -1);
        Check.due("back(-1)", x.back(-1), -1);
        Check.due("nothing done", x.about(6), 3);
        Check.due("nothing done", x.about(7), 1);
        Check.due("back(2)", x.back(2), 1);
        Check.due("undoable", x.about(6), 0);
        Check.due("redoable", x.about(7), 0);
        Check.due("undo", x.undo(), false);
        Check.due("redo", x.redo(), false);
        Check.due("seed", x.about(5), 3);
        Check.due("two left", x.flock(0, 2), 4);
        Check.due("flocks", x.tower(0, 3), 1);
        geese("back", x, 4, 0, 4, 0, 0, 0);
        x.beats(2);
        Check.due("gone on", x.tower(1, 2), 4);
        Check.due("undo behind back", x.undo(), true);
        Check.due("as it was kept", x.flock(0, 2), 4);
        x.beats(7);
        Check.due("back again", x.back(2), 1);
        Check.due("the box keeps it", x.flock(0, 2), 4);
        Check.due("kept anew", x.image(2), 1);
        x.beats(3);
        Check.due("kept later", x.image(2), 4);
        Check.due("back to later", x.back(2), 4);
        Check.due("there", x.tower(1, 2), 4);
    }

    private static void about() {
        GeeseSums x = Check.on("start a;start b;dusk d;way a to d in 2;claim c at d a + b;draw 3;");
        x.begin(0, 1);
        x.beats(2);
        x.undo();
        x.pair(1, 2);
        x.sight(2, 1, 1);
        x.later(9);
        x.begun(2, 0);
        Check.type(x, "abc");
        int[] want = {3, 2, 1, 1, 0, 3, 1, 1, 1, 1, 9, 3, 2, 0};
        for (int i = 0; i < want.length; i++) {
            Check.due("about(" + i + ")", x.about(i), want[i]);
        }
        Check.due("about(14)", x.about(14), -1);
        Check.due("about(-1)", x.about(-1), -1);
        x.begun(2, -1);
        Check.due("about(13)", x.about(13), 2);
    }
}
