/** Promises 33 to 37: sights, told and untold at times, and the rows that are so. */
public final class SightTest {
    private static final String SUM = "start a;start b;dusk d;dusk e;odd o;way a to d in 1;way b to d in 3;";

    public static void main(String[] args) {
        sight();
        later();
        untell();
        begun();
        knownAt();
        sure();
        threeStarts();
        Check.close("SightTest");
    }

    private static void sight() {
        GeeseSums x = Check.on(SUM);
        Check.due("no dusk", x.sight(0, 5, 1), -1);
        Check.due("no tower", x.sight(5, 5, 1), -1);
        Check.due("no tower", x.sight(-1, 5, 1), -1);
        Check.due("no beats", x.sight(2, 0, 1), -1);
        Check.due("61 beats", x.sight(2, 61, 1), -1);
        Check.due("fewer than none", x.sight(2, 5, -1), -1);
        Check.due("a million", x.sight(2, 5, 1000000), -1);
        Check.due("about(9)", x.about(9), 0);
        Check.due("1 beat", x.sight(2, 1, 0), 0);
        Check.due("60 beats", x.sight(2, 60, 999999), 1);
        for (int i = 2; i < 20; i++) {
            Check.due("sight " + i, x.sight(3, 5, 0), i);
        }
        Check.due("a twenty-first", x.sight(3, 5, 0), -1);
        Check.due("untold ones count", x.untell(3), true);
        Check.due("a twenty-first", x.sight(3, 5, 0), -1);
        Check.due("about(9)", x.about(9), 20);
        Check.due("nobody", x.begun(9, 0), 0);
        Check.lies("nobody", x);
    }

    private static void later() {
        GeeseSums x = new GeeseSums();
        Check.due("later(0)", x.later(0), 0);
        Check.due("later(1000)", x.later(1000), 1000);
        Check.due("later(1001)", x.later(1001), -1);
        Check.due("later(-1)", x.later(-1), -1);
        for (int i = 2; i < 100; i++) {
            Check.due("later(1000)", x.later(1000), i * 1000);
        }
        Check.due("later(999)", x.later(999), 99999);
        Check.due("later(2)", x.later(2), -1);
        Check.due("about(10)", x.about(10), 99999);
        Check.due("later(1)", x.later(1), 100000);
        Check.due("later(1)", x.later(1), -1);
        Check.due("later(0)", x.later(0), 100000);
    }

    private static void untell() {
        GeeseSums x = Check.on(SUM);
        Check.due("none such", x.untell(0), false);
        Check.due("none such", x.untell(-1), false);
        x.sight(2, 2, 5);
        Check.due("none such", x.untell(1), false);
        Check.due("untold", x.untell(0), true);
        Check.due("so already", x.untell(0), false);
        Check.due("about(9)", x.about(9), 1);
        // Told and untold at one time: it counts never.
        Check.due("all rows", x.begun(1, 0), 4);
    }

    private static void begun() {
        GeeseSums x = Check.on(SUM);
        Check.due("all", x.begun(9, 0), 100);
        Check.lies("all", x, 0, 0);
        Check.due("of 0 .. 0", x.begun(0, 0), 1);
        Check.due("m of 10", x.begun(10, 0), -1);
        Check.lies("m of 10", x);
        Check.due("m below 0", x.begun(-1, 0), -1);
        x.sight(2, 4, 5);
        Check.due("five together", x.begun(9, 0), 6);
        Check.lies("five together", x, 0, 5);
        Check.due("of 0 .. 3", x.begun(3, 0), 2);
        Check.lies("of 0 .. 3", x, 2, 3);
        Check.due("of 0 .. 2", x.begun(2, 0), 0);
        Check.lies("none", x);
        x.sight(2, 3, 4);
        Check.due("four by then", x.begun(9, 0), 1);
        Check.lies("four by then", x, 4, 1);
        x.sight(3, 60, 1);
        Check.due("not at e", x.begun(9, 0), 0);
        // What is in earnest, and the row at hand, are other things.
        x.row(0, 3);
        x.begin(0, 3);
        x.untell(2);
        Check.due("four by then", x.begun(9, 0), 1);
    }

    private static void knownAt() {
        GeeseSums x = Check.on(SUM);
        x.later(5);
        x.sight(2, 4, 5);
        x.later(2);
        x.sight(2, 3, 4);
        x.later(3);
        x.untell(0);
        x.later(1);
        Check.due("ahead of all", x.begun(9, 4), 100);
        Check.due("far ahead", x.begun(9, Integer.MIN_VALUE), 100);
        Check.due("told at 5", x.begun(9, 5), 6);
        Check.due("at 6", x.begun(9, 6), 6);
        Check.due("both at 7", x.begun(9, 7), 1);
        Check.due("at 9", x.begun(9, 9), 1);
        Check.due("untold at 10", x.begun(9, 10), 10);
        Check.lies("untold at 10", x, 4, 0);
        Check.due("later", x.begun(9, Integer.MAX_VALUE), 10);
        Check.due("the time stays", x.about(10), 11);
    }

    private static void sure() {
        GeeseSums x = Check.on(SUM);
        Check.due("of all", x.sure(0, 9, 0), -2);
        Check.due("of 0 .. 0", x.sure(0, 0, 0), 0);
        Check.due("no start", x.sure(2, 9, 0), -1);
        Check.due("no start", x.sure(-1, 9, 0), -1);
        Check.due("m of 10", x.sure(0, 10, 0), -1);
        Check.due("m below 0", x.sure(0, -1, 0), -1);
        x.later(1);
        x.sight(2, 3, 4);
        Check.due("four at a", x.sure(0, 9, 1), 4);
        Check.due("of b nothing", x.sure(1, 9, 1), -2);
        Check.due("not yet", x.sure(0, 9, 0), -2);
        x.begun(9, 0);
        x.sight(2, 5, 6);
        Check.due("two at b", x.sure(1, 9, 1), 2);
        Check.due("no rows", x.sure(1, 3, 1), -1);
        Check.lies("sure moves nothing", x, 0, 0);
    }

    private static void threeStarts() {
        GeeseSums x = Check.on("dusk d;start a;start b;start c;split s;dusk e;way a to s in 1;way b to s in 1;way c to d in 9;way s to d in 1;way s to e in 1;");
        Check.due("a thousand", x.begun(9, 0), 1000);
        x.sight(5, 3, 4);
        // a and b together 8 or 9.
        Check.due("rows", x.begun(9, 0), 190);
        Check.lies("the first", x, 0, 8, 0);
        x.sight(0, 10, 13);
        Check.due("nine at c", x.begun(9, 0), 19);
        Check.due("sure of c", x.sure(2, 9, 0), 9);
        Check.due("not of a", x.sure(0, 9, 0), -2);
    }
}
