/** Promises 15 to 24: the row, what is reckoned, claims and what is against them, mending, losses, adding. */
public final class RowTest {
    private static final String HALF = "start a;start b;join j;split s;fox f 1;dusk d;dusk e;way a to j in 1;way b to j in 2;"
        + "way j to s in 1;way s to d in 1;way s to f in 1;way f to e in 2;claim half at d (a + b) / 2;claim same at e (a + b) / 2;";

    public static void main(String[] args) {
        row();
        reckon();
        still();
        says();
        wrong();
        spent();
        against();
        mend();
        mendTwo();
        loss();
        blind();
        adds();
        Check.close("RowTest");
    }

    private static void row() {
        GeeseSums x = Check.on("start a;start b;");
        Check.due("row(0, 999)", x.row(0, 999), 0);
        Check.due("row(0, 1000)", x.row(0, 1000), -1);
        Check.due("row(0, -1)", x.row(0, -1), -1);
        Check.due("row(2, 1)", x.row(2, 1), -1);
        Check.due("row(-1, 1)", x.row(-1, 1), -1);
        Check.due("row(0, 0)", x.row(0, 0), 999);
        Check.due("row(1, 5)", x.row(1, 5), 0);
        Check.due("row(0, 3)", x.row(0, 3), 0);
        Check.due("row(1, 5)", x.row(1, 5), 5);
    }

    private static void reckon() {
        GeeseSums x = Check.on(HALF);
        x.row(0, 5);
        Check.due("reckon(5, 3)", x.reckon(5, 3), 0);
        Check.due("reckon(5, 4)", x.reckon(5, 4), 2);
        Check.due("reckon(6, 100)", x.reckon(6, 100), 1);
        Check.due("no dusk", x.reckon(4, 3), -1);
        Check.due("no tower", x.reckon(7, 3), -1);
        Check.due("no tower", x.reckon(-1, 3), -1);
        Check.due("no beats", x.reckon(5, 0), -1);
        Check.due("101 beats", x.reckon(5, 101), -1);
        // What goes on in earnest is another thing.
        x.begin(0, 99);
        x.beats(2);
        x.gust();
        Check.due("an empty sky", x.reckon(5, 4), 2);
        Check.due("earnest stays", x.about(4), 2);
    }

    private static void still() {
        GeeseSums x = Check.on(HALF);
        Check.due("none at all", x.still(), 0);
        x.row(0, 5);
        Check.due("still", x.still(), 6);
        GeeseSums ring = Check.on("start a;join j;way a to j in 1;way j to j in 1;");
        Check.due("none on the ring", ring.still(), 0);
        ring.row(0, 1);
        Check.due("for ever", ring.still(), -1);
        GeeseSums lone = Check.on("start a;");
        lone.row(0, 1);
        Check.due("lost in the first beat", lone.still(), 1);
        GeeseSums pond = Check.on("start a;pond p 5;way a to p in 1;");
        pond.row(0, 4);
        Check.due("four stay", pond.still(), 2);
        pond.row(0, 14);
        Check.due("two fives go", pond.still(), 3);
        pond.row(0, 15);
        Check.due("three fives go", pond.still(), 4);
        GeeseSums long_ = Check.on("start a;pond p 1;dusk d;way a to p in 1;way p to d in 1;");
        // n set out by 1 from beat 2 to beat n + 1; the last is there a beat later.
        long_.row(0, 198);
        Check.due("the 200th beat", long_.still(), 200);
        long_.row(0, 199);
        Check.due("the 201st beat", long_.still(), -1);
        GeeseSums split = Check.on("start a;split s;way a to s in 1;");
        split.row(0, 1);
        Check.due("one circles and is still", split.still(), 2);
    }

    /** What a claim of this e says of a = 7, b = 3, c = 0. */
    private static void says(String e, int want) {
        GeeseSums x = Check.on("start a;start b;start c;dusk d;claim x at d " + e + ";");
        x.row(0, 7);
        x.row(1, 3);
        Check.due("says " + e, x.says(0), want);
    }

    private static void says() {
        says("a", 7);
        says("a + b * 2", 13);
        says("a - b - 2", 2);
        says("a - (b - 2)", 6);
        says("a * 2 / b", 4);
        says("a / 2 * b", 9);
        says("a % b", 1);
        says("(b - a) / 3", -1);
        says("(b - a) % 3", -1);
        says("a / (b - a)", -1);
        says("a % (b - a)", 3);
        says("a / c", 0);
        says("a % c", 0);
        says("a % (b - 3)", 0);
        says("a < b", 0);
        says("b < a", 1);
        says("a < a", 0);
        says("a > b", 1);
        says("a > a", 0);
        says("a = b + 4", 1);
        says("a = b", 0);
        says("a and b", 1);
        says("a and c", 0);
        says("c or a", 1);
        says("c or c", 0);
        says("c or a and c", 0);
        says("a or a and c", 1);
        says("(a or a) and c", 0);
        says("not a", 0);
        says("not c", 1);
        says("not not a", 1);
        says("not a = b", 1);
        says("not c and c", 0);
        says("not c or c", 1);
        says("c - 5 or c", 1);
        says("(a < b) = c", 1);
        says("9999 * 9999 * 9999", 9999 * 9999 * 9999);
        says("9999 * 9999 * 43 + a", 9999 * 9999 * 43 + 7);
        says("(0 - 2048 * 1024 * 1024) / (0 - 1)", Integer.MIN_VALUE);
        says("(0 - 2048 * 1024 * 1024) % (0 - 1)", 0);
        says("0 - 2048 * 1024 * 1024 - 1", Integer.MAX_VALUE);
        says("0001 + 0010", 11);
        GeeseSums x = Check.on(HALF);
        x.row(0, 5);
        x.row(1, 4);
        Check.due("says(0)", x.says(0), 4);
        Check.due("says(1)", x.says(1), 4);
        Check.due("says(2)", x.says(2), 0);
        Check.due("says(-1)", x.says(-1), 0);
        GeeseSums y = Check.on("dusk d;start a;claim x at d 5;claim y at d a;claim z at d a + 1;");
        y.row(0, 9);
        Check.due("the first", y.says(0), 5);
        Check.due("the second", y.says(1), 9);
        Check.due("the third", y.says(2), 10);
    }

    private static void wrong() {
        GeeseSums x = Check.on(HALF);
        Check.due("right", x.wrong(0, 3, 10), 0);
        Check.due("too early", x.wrong(0, 3, 1), 13);
        Check.due("wrong", x.wrong(1, 3, 20), 13);
        Check.due("of one row", x.wrong(1, 0, 20), 0);
        Check.due("no claim", x.wrong(2, 3, 20), -1);
        Check.due("no claim", x.wrong(-1, 3, 20), -1);
        Check.due("m below 0", x.wrong(0, -1, 20), -1);
        Check.due("m of 100", x.wrong(0, 100, 20), -1);
        Check.due("no beats", x.wrong(0, 3, 0), -1);
        Check.due("101 beats", x.wrong(0, 3, 101), -1);
        x.row(0, 7);
        x.wrong(1, 3, 20);
        Check.due("the row stays", x.row(0, 7), 7);
        // Without starts there is one row, of nothing.
        GeeseSums y = Check.on("dusk d;claim c at d 0;claim w at d 1;");
        Check.due("nothing is right", y.wrong(0, 99, 1), 0);
        Check.due("one is wrong", y.wrong(1, 99, 1), 1);
        Check.due("against of nothing", y.against(1, 5, 1), 0);
        Check.lies("a row of nothing", y);
    }

    private static void spent() {
        GeeseSums one = Check.on("start a;dusk d;way a to d in 1;claim c at d a;");
        Check.due("100 rows", one.wrong(0, 99, 5), 0);
        GeeseSums two = Check.on("start a;start b;dusk d;way a to d in 1;claim c at d a;");
        Check.due("961 rows", two.wrong(0, 30, 5), 0);
        Check.due("1024 rows", two.wrong(0, 31, 5), -2);
        Check.due("against, 961 rows", two.against(0, 30, 5), -1);
        Check.due("against, 1024 rows", two.against(0, 31, 5), -2);
        Check.due("what can't be comes first", two.wrong(0, 31, 0), -1);
        Check.due("what can't be comes first", two.against(0, 100, 5), -1);
        GeeseSums three = Check.on("start a;start b;start c;dusk d;way a to d in 1;claim x at d a;");
        Check.due("1000 rows", three.wrong(0, 9, 5), 0);
        Check.due("against, 1000 rows", three.against(0, 9, 5), -1);
        Check.due("against, 1331 rows", three.against(0, 10, 5), -2);
        Check.due("1331 rows", three.wrong(0, 10, 5), -2);
        Check.due("mend, 8 rows", three.mend(0, 1, 5), 0);
        Check.due("mend, 27 rows", three.mend(0, 2, 5), -2);
        Check.due("mend, 16 rows", two.mend(0, 3, 5), 0);
        Check.due("mend, 25 rows", two.mend(0, 4, 5), -2);
        Check.due("mend, 16 rows", one.mend(0, 15, 5), 0);
        Check.due("mend, 17 rows", one.mend(0, 16, 5), -2);
        Check.due("mend, m of 100", one.mend(0, 100, 5), -1);
        Check.due("mend, no claim", one.mend(1, 16, 5), -1);
        Check.due("mend, no beats", one.mend(0, 1, 0), -1);
        Check.due("mend, 101 beats", one.mend(0, 1, 101), -1);
        Check.due("mend, m below 0", one.mend(0, -1, 1), -1);
    }

    private static void against() {
        GeeseSums x = Check.on(HALF);
        Check.due("none", x.against(0, 3, 10), -1);
        Check.lies("none", x);
        Check.due("against", x.against(1, 3, 20), 2);
        Check.lies("against", x, 0, 2);
        Check.due("spent", x.against(1, 40, 20), -2);
        Check.lies("spent", x);
        x.against(1, 3, 20);
        Check.due("can't be", x.against(1, 3, 0), -1);
        Check.lies("can't be", x);
        GeeseSums y = Check.on("start a;start b;start c;dusk d;way a to d in 1;way b to d in 1;way c to d in 1;"
            + "claim x at d b + c + (not a) * a;claim y at d a + b + c - (b > 1) * (c > 0);");
        // START 0 counts most: 0 0 0 .. 0 2 2 are nine rows, then 1 0 0.
        Check.due("start 0 first", y.against(0, 2, 5), 9);
        Check.lies("start 0 first", y, 1, 0, 0);
        Check.due("then the others", y.against(1, 2, 5), 7);
        Check.lies("then the others", y, 0, 2, 1);
    }

    private static void mend() {
        String text = "start a;start b;join j;odd o;dusk x;dusk y;way a to j in 1;way b to j in 2;way j to o in 1;way o to x in 1;"
            + "way o to y in 1;claim m at x (a + b) % 2 * (a + b);claim n at y 5;";
        GeeseSums x = Check.on(text);
        Check.due("one way", x.mend(0, 1, 20), 1);
        Check.lies("way 0 in 2", x, 2);
        Check.due("not at all", x.mend(1, 1, 20), -1);
        Check.lies("nothing", x);
        Check.due("the net is as it was", x.way(0, 2), 1);
        Check.due("still wrong", x.wrong(0, 1, 20), 1);
        x.mend(0, 1, 20);
        Check.due("spent", x.mend(0, 5, 20), -2);
        Check.lies("spent", x);
        x.mend(0, 1, 20);
        Check.due("can't be", x.mend(2, 1, 20), -1);
        Check.lies("can't be", x);
        Check.due("right already", x.mend(0, 0, 20), 0);
        Check.lies("right already", x);
        GeeseSums y = Check.on("start a;dusk d;way a to d in 5;claim c at d a;claim n at d 0;");
        Check.due("sooner", y.mend(0, 3, 3), 1);
        Check.lies("the fewest beats", y, 1);
        Check.due("later", y.mend(1, 3, 6), 1);
        Check.lies("the fewest that are too many", y, 6);
        Check.due("other beats", y.mend(0, 3, 6), 0);
        // Set out in beat 1, nine beats long: there in beat 10.
        Check.due("at most nine beats", y.mend(1, 3, 9), 1);
        Check.lies("nine", y, 9);
        Check.due("nine are too few", y.mend(1, 3, 10), -1);
    }

    private static void mendTwo() {
        GeeseSums x = Check.on("start a;start b;dusk d;way a to d in 5;way b to d in 5;claim c at d a + b;claim n at d 0;claim a at d a;");
        Check.due("both", x.mend(0, 1, 4), 2);
        Check.lies("both", x, 1, 11);
        Check.due("both later", x.mend(1, 1, 8), 2);
        Check.lies("both later", x, 8, 18);
        Check.due("one later", x.mend(2, 1, 8), 1);
        Check.lies("one later", x, 18);
        GeeseSums y = Check.on("start a;start b;start c;dusk d;way a to d in 5;way b to d in 5;way c to d in 5;claim x at d a + b + c;claim y at d a + c;");
        Check.due("three are too many", y.mend(0, 1, 4), -1);
        Check.lies("three are too many", y);
        Check.due("the first and the last", y.mend(1, 1, 4), 2);
        Check.lies("the first and the last", y, 1, 21);
    }

    private static void loss() {
        GeeseSums x = Check.on(HALF);
        x.row(0, 5);
        x.row(1, 4);
        Check.due("none set out", x.loss(2, 2, 5, 10), 0);
        Check.due("one of a half", x.loss(3, 3, 5, 10), 1);
        Check.due("too late to be seen", x.loss(3, 3, 6, 10), 0);
        Check.due("beat 0", x.loss(3, 0, 5, 10), -1);
        Check.due("beyond", x.loss(3, 11, 5, 10), -1);
        Check.due("no way", x.loss(6, 1, 5, 10), -1);
        Check.due("no way", x.loss(-1, 1, 5, 10), -1);
        Check.due("no dusk", x.loss(0, 1, 4, 10), -1);
        Check.due("no beats", x.loss(0, 1, 5, 0), -1);
        Check.due("101 beats", x.loss(0, 1, 5, 101), -1);
        // One less at an odd one sends all the other way.
        GeeseSums y = Check.on("start a;odd o;dusk d;dusk e;way a to o in 1;way o to d in 1;way o to e in 1;");
        y.row(0, 5);
        Check.due("five less", y.loss(0, 1, 2, 9), 5);
        Check.due("four more", y.loss(0, 1, 3, 9), -4);
        Check.due("one less", y.loss(1, 2, 2, 9), 1);
        Check.due("none on the second way", y.loss(2, 2, 2, 9), 0);
        Check.due("none any more", y.loss(0, 2, 2, 9), 0);
        Check.due("not there yet", y.loss(0, 1, 2, 2), 0);
        Check.due("there in the last beat", y.loss(0, 1, 2, 3), 5);
        Check.due("one less in the last beat", y.loss(1, 2, 2, 3), 1);
        Check.due("set out in the last beat", y.loss(1, 2, 2, 2), 0);
    }

    private static void blind() {
        GeeseSums x = Check.on(HALF);
        Check.due("none fly", x.blind(5, 10), 0);
        Check.due("no dusk", x.blind(4, 10), -1);
        Check.due("no dusk", x.blind(7, 10), -1);
        Check.due("no beats", x.blind(5, 0), -1);
        Check.due("101 beats", x.blind(5, 101), -1);
        x.row(0, 5);
        // Ways 0 (1), 2 (2), 3 (3), 4 (3), 5 (4): of the odd one, of the fox's side nothing is seen at d.
        Check.due("at d", x.blind(5, 10), 4);
        x.row(0, 4);
        Check.due("without the odd one", x.blind(5, 10), 2);
        Check.due("too early", x.blind(5, 3), 4);
        GeeseSums y = Check.on("start a;dusk d;way a to d in 2;");
        y.row(0, 3);
        Check.due("seen", y.blind(1, 3), 0);
        Check.due("not there yet", y.blind(1, 2), 1);
        GeeseSums z = Check.on("start a;odd o;dusk d;dusk e;way a to o in 1;way o to d in 1;way o to e in 1;");
        z.row(0, 1);
        Check.due("one alone is seen", z.blind(2, 3), 0);
        Check.due("and not at e", z.blind(3, 3), 2);
    }

    private static void adds() {
        GeeseSums x = Check.on(HALF);
        Check.due("how many do not", x.adds(0, 5, 4, 10, 0), 2);
        Check.due("a", x.adds(0, 5, 4, 10, 1), 1);
        Check.due("b", x.adds(0, 5, 4, 10, 2), 1);
        Check.due("no pair", x.adds(0, 5, 1, 10, 0), 0);
        Check.due("no pair's a", x.adds(0, 5, 1, 10, 1), -1);
        Check.due("no pair's b", x.adds(0, 5, 1, 10, 2), -1);
        Check.due("m of 0", x.adds(0, 5, 0, 10, 0), 0);
        Check.due("m of 40", x.adds(0, 5, 40, 10, 0) > 0, true);
        Check.due("m of 41", x.adds(0, 5, 41, 10, 0), -1);
        Check.due("m below 0", x.adds(0, 5, -1, 10, 0), -1);
        Check.due("another what", x.adds(0, 5, 4, 10, 3), -1);
        Check.due("another what", x.adds(0, 5, 4, 10, -1), -1);
        Check.due("no start", x.adds(2, 5, 4, 10, 0), -1);
        Check.due("no start", x.adds(-1, 5, 4, 10, 0), -1);
        Check.due("no dusk", x.adds(0, 4, 4, 10, 0), -1);
        Check.due("no beats", x.adds(0, 5, 4, 0, 0), -1);
        Check.due("101 beats", x.adds(0, 5, 4, 101, 0), -1);
        // What other starts have in the row at hand counts not.
        x.row(1, 1);
        Check.due("0 at all others", x.adds(0, 5, 4, 10, 0), 2);
        GeeseSums y = Check.on("start a;start b;wind w 3;dusk d;way a to d in 1;way b to w in 1;way w to d in 1;");
        Check.due("a plain way adds", y.adds(0, 3, 40, 10, 0), 0);
        Check.due("a plain way adds", y.adds(0, 3, 40, 10, 1), -1);
        // Of 1 .. 5 are reckoned 0 0 3 3 3: 1 and 2, 2 and 2 are more together.
        Check.due("how many in threes", y.adds(1, 3, 5, 10, 0), 2);
        Check.due("a counts most", y.adds(1, 3, 5, 10, 1), 1);
        Check.due("then b", y.adds(1, 3, 5, 10, 2), 2);
    }
}
