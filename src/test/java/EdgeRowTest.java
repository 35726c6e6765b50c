/**
 * The boundary cases that the document names: "Terms" 3 as far as ROWS go (t3..), promises 15 to 24 (p15 .. p24). One test a sentence;
 * its remark tells the sentence.
 */
public final class EdgeRowTest {
    private static final int[] FAR = {Integer.MIN_VALUE, -1000, -1, 1001, 1000000, Integer.MAX_VALUE};
    private static final String ONE = "start a;dusk d;way a to d in 1;claim c at d a;";
    private static final String TWO = "start a;start b;dusk d;way a to d in 1;way b to d in 1;claim c at d a+b;";
    private static final String THREE = "start a;start b;start c;dusk d;way a to d in 1;way b to d in 1;way c to d in 1;claim c at d a+b+c;";
    // d has 98 behind 100 beats, if there are so many.
    private static final String DRIP = "start a;pond p 1;dusk d;way a to p in 1;way p to d in 1;claim c at d a;";

    public static void main(String[] args) throws ReflectiveOperationException {
        Check.edges(EdgeRowTest.class);
        Check.close("EdgeRowTest");
    }

    // ==== Terms 3: ROWS, what is RECKONED ====

    /** Terms 3: "A ROW tells how many are begun at each START (0 .. 999; none at first)". */
    static void t3RowOf0To999() {
        Run x = Run.on(ONE);
        x.is(x.says(0), 0);
        x.is(x.reckon(1, 9), 0);
        x.is(x.row(0, 999), 0);
        x.is(x.says(0), 999);
        x.is(x.reckon(1, 9), 999);
        x.is(x.row(0, 0), 999);
        x.is(x.reckon(1, 9), 0);
        x.is(x.still(), 0);
    }

    /** Terms 3: "Below all begins with an empty sky, no SEED": what is in earnest changes nothing, nor is it changed. */
    static void t3BeginsWithAnEmptySky() {
        Run.Deed fly = x -> {
            x.begin(0, 9);
            x.beats(2);
            x.gust();
            x.begin(0, 5);
        };
        Run.Deed reckon = x -> {
            x.row(0, 7);
            x.is(x.reckon(1, 3), 7);
            x.is(x.still(), 3);
            x.is(x.wrong(0, 5, 9), 0);
            x.is(x.against(0, 5, 9), -1);
            x.is(x.mend(0, 5, 9), 0);
            x.is(x.loss(0, 1, 1, 9), 1);
            x.is(x.blind(1, 3), 0);
            x.is(x.adds(0, 1, 9, 9, 0), 0);
            x.is(x.begun(9, 0), 10);
            x.is(x.sure(0, 9, 0), -2);
        };
        String text = "start a;dusk d;dusk e;way a to d in 2;claim c at d a;draw 9;";
        Run x = Run.on(text);
        reckon.on(x);
        fly.on(x);
        x.row(0, 0);
        reckon.on(x);
        Run untouched = Run.on(text);
        fly.on(untouched);
        for (int what = 0; what < 6; what++) {
            x.is(x.geese(what), untouched.geese(what));
        }
        for (int what = 4; what <= 7; what++) {
            x.is(x.about(what), untouched.about(what));
        }
        x.is(x.tower(0, 2), 5);
        x.is(x.flock(0, 2), 9);
    }

    /** Terms 3: "Below all begins with an empty sky": behind a reckoning that ended while geese were on each way, at each distance. */
    static void t3BeginsWithAnEmptySkyEachTime() {
        Run x = Run.on("start a;pond p 1;dusk d;way p to d in 9;way a to p in 1;claim c at d a;");
        for (int beats = 1; beats <= 100; beats++) {
            x.row(0, 999);
            x.is(x.reckon(2, beats), beats < 11 ? 0 : beats - 10);
            x.row(0, 0);
            x.is(x.reckon(2, 100), 0);
        }
        x.row(0, 999);
        x.is(x.reckon(2, 50), 40);
        x.row(0, 1);
        x.is(x.reckon(2, 100), 1);
        x.is(x.still(), 11);
    }

    /** Terms 3: "BEAT by BEAT, 1 .. 100 of them, where so many are told": each call that is told them. */
    static void t3Beats1To100() {
        Run x = Run.on(DRIP);
        x.row(0, 999);
        for (int beats : new int[] {0, 101, -1, 102, Integer.MIN_VALUE, Integer.MAX_VALUE}) {
            x.is(x.reckon(2, beats), -1);
            x.is(x.wrong(0, 1, beats), -1);
            x.is(x.against(0, 1, beats), -1);
            x.is(x.mend(0, 1, beats), -1);
            x.is(x.loss(0, 1, 2, beats), -1);
            x.is(x.blind(2, beats), -1);
            x.is(x.adds(0, 2, 1, beats, 0), -1);
        }
        x.is(x.reckon(2, 1), 0);
        x.is(x.reckon(2, 2), 0);
        x.is(x.reckon(2, 3), 1);
        x.is(x.reckon(2, 99), 97);
        x.is(x.reckon(2, 100), 98);
        // Of 0 .. 99 the 99 is wrong behind 100 beats; behind 1 beat all but 0.
        x.is(x.wrong(0, 99, 100), 1);
        x.is(x.wrong(0, 99, 1), 99);
        x.is(x.against(0, 99, 100), 99);
        x.is(x.against(0, 99, 1), 1);
        x.is(x.mend(0, 1, 100), 0);
        x.is(x.mend(0, 1, 1), -1);
        x.is(x.loss(0, 1, 2, 100), 0);
        x.is(x.loss(1, 99, 2, 100), 1);
        x.is(x.loss(0, 1, 2, 1), 0);
        // Ways 0 in beat 1, 1 in beats 2 .. 100: unseen are the first (others come) and the last one (not there yet).
        x.is(x.blind(2, 100), 2);
        x.is(x.blind(2, 1), 1);
        x.is(x.adds(0, 2, 40, 100, 0), 0);
        x.is(x.adds(0, 2, 2, 1, 0), 0);
    }

    /** Terms 3: "RECKONED at a dusk: how many are there then": in the BEAT ahead none, in that BEAT all. */
    static void t3Reckoned() {
        for (int way = 1; way <= 9; way++) {
            Run x = Run.on("start a;dusk d;way a to d in " + way + ";");
            x.row(0, 5);
            x.is(x.reckon(1, way), 0);
            x.is(x.reckon(1, way + 1), 5);
            x.is(x.reckon(1, 100), 5);
        }
    }

    /** Terms 3: "STILL: the first BEAT (0 .. 200) behind which ..": 0, 1, 199, 200; not 201. */
    static void t3StillWithin200() {
        Run x = Run.on(DRIP);
        x.is(x.still(), 0);
        // The last of n leaves the pond in beat n + 1, and is there a beat later.
        for (int n : new int[] {1, 2, 100, 196, 197, 198}) {
            x.row(0, n);
            x.is(x.still(), n + 2);
        }
        for (int n : new int[] {199, 200, 999}) {
            x.row(0, n);
            x.is(x.still(), -1);
        }
        Run lone = Run.on("start a;");
        lone.row(0, 1);
        lone.is(lone.still(), 1);
    }

    /** Terms 3: STILL, if "nobody is on a WAY, waits, and no pond has N": who circles, or stays where there is no N, is still. */
    static void t3WhoIsStill() {
        Run way = Run.on("start a;dusk d;way a to d in 9;");
        way.row(0, 1);
        way.is(way.still(), 10);
        Run split = Run.on("start a;split s;way a to s in 1;");
        split.row(0, 1);
        split.is(split.still(), 2);
        Run pond = Run.on("start a;pond p 5;way a to p in 1;");
        int[] rows = {4, 5, 6, 9, 10, 14, 15};
        int[] beats = {2, 2, 2, 2, 3, 3, 4};
        for (int i = 0; i < rows.length; i++) {
            pond.row(0, rows[i]);
            pond.is(pond.still(), beats[i]);
        }
        Run ring = Run.on("start a;start b;join j;way a to j in 1;way j to j in 9;");
        ring.row(1, 1);
        ring.is(ring.still(), 1);
        ring.row(0, 1);
        ring.is(ring.still(), -1);
    }

    /** What a claim of this e says, with a = 7, b = 3, c = 0. */
    private static void says(String e, int want) {
        Run x = Run.on("start a;start b;start c;dusk d;claim x at d " + e + ";");
        x.row(0, 7);
        x.row(1, 3);
        Check.due("says of " + e, x.says(0), want);
    }

    /** Terms 3: "ints, wrapping": behind the greatest comes the least. */
    static void t3Wrapping() {
        says("2048*1024*1024-1", Integer.MAX_VALUE);
        says("2048*1024*1024", Integer.MIN_VALUE);
        says("0-2048*1024*1024", Integer.MIN_VALUE);
        says("2048*1024*1024-1+1", Integer.MIN_VALUE);
        says("0-2048*1024*1024-1", Integer.MAX_VALUE);
        says("4096*1024*1024", 0);
        says("9999*9999*9999", 9999 * 9999 * 9999);
        says("2048*1024*1024/(0-1)", Integer.MIN_VALUE);
        says("2048*1024*1024%(0-1)", 0);
        says("2048*1024*1024<0", 1);
        says("2048*1024*1024-1>0", 1);
    }

    /** Terms 3: "/ cut, % its rest": on both sides of 0. */
    static void t3CutAndRest() {
        says("a/b", 2);
        says("(0-a)/b", -2);
        says("a/(0-b)", -2);
        says("(0-a)/(0-b)", 2);
        says("a%b", 1);
        says("(0-a)%b", -1);
        says("a%(0-b)", 1);
        says("(0-a)%(0-b)", -1);
        says("6/3", 2);
        says("6%3", 0);
        says("2/3", 0);
        says("(0-2)/3", 0);
        says("(0-2)%3", -2);
        says("c/a", 0);
        says("c%a", 0);
        says("a/1", 7);
        says("a%1", 0);
    }

    /** Terms 3: "both by 0: 0". */
    static void t3ByNought() {
        says("a/0", 0);
        says("a%0", 0);
        says("a/c", 0);
        says("a%c", 0);
        says("c/c", 0);
        says("c%c", 0);
        says("(0-a)/(b-3)", 0);
        says("(0-a)%(b-3)", 0);
        says("a/0+b", 3);
        says("2048*1024*1024/0", 0);
    }

    /** Terms 3: "relations .. are 1 or 0": below, at and above. */
    static void t3Relations() {
        String[] left = {"2", "3", "4"};
        int[] less = {1, 0, 0};
        int[] more = {0, 0, 1};
        int[] same = {0, 1, 0};
        for (int i = 0; i < 3; i++) {
            says(left[i] + "<b", less[i]);
            says(left[i] + ">b", more[i]);
            says(left[i] + "=b", same[i]);
        }
        says("0-1<0", 1);
        says("0-1>0", 0);
        says("(a>b)+(a>b)", 2);
    }

    /** Terms 3: "and, or, not are 1 or 0, of what is not 0": 0, 1, more, below 0. */
    static void t3AndOrNot() {
        int[] values = {0, 1, 5, -1, -7};
        for (int a : values) {
            says("not (0" + signed(a) + ")", a == 0 ? 1 : 0);
            for (int b : values) {
                says("0" + signed(a) + " and 0" + signed(b), a != 0 && b != 0 ? 1 : 0);
                says("0" + signed(a) + " or 0" + signed(b), a != 0 || b != 0 ? 1 : 0);
            }
        }
        says("not not a", 1);
        says("not not not a", 0);
        says("a or c and c", 1);
        says("(a or c) and c", 0);
        says("not c and c", 0);
        says("not c = c", 0);
    }

    private static String signed(int n) {
        return n < 0 ? "-" + -n : "+" + n;
    }

    /** Terms 3: "For all ROWS of 0 .. m at each START (ordered by START 0, then the next ones)": each ROW of 0 .. 2 is the first against once. */
    static void t3OrderOfRows() {
        int ahead = 0;
        for (int a = 0; a <= 2; a++) {
            for (int b = 0; b <= 2; b++) {
                for (int c = 0; c <= 2; c++) {
                    // Wrong for this ROW and all behind it.
                    String e = "a+b+c+(a*9+b*3+c>" + (a * 9 + b * 3 + c) + " or a=" + a + " and b=" + b + " and c=" + c + ")";
                    Run x = Run.on("start a;start b;start c;dusk d;way a to d in 1;way b to d in 1;way c to d in 1;claim x at d " + e + ";");
                    x.is(x.wrong(0, 2, 2), 27 - ahead);
                    x.is(x.against(0, 2, 2), ahead);
                    x.lie(a, b, c);
                    ahead++;
                }
            }
        }
    }

    /** Terms 3: "SPENT, if there are more than 1,000 ROWS": 1,000 of three STARTS, 961 of two, 100 of one, 1 of none are not. */
    static void t3SpentAbove1000Rows() {
        Run three = Run.on(THREE);
        three.is(three.wrong(0, 9, 2), 0);
        three.is(three.against(0, 9, 2), -1);
        for (int m : new int[] {10, 11, 98, 99}) {
            three.is(three.wrong(0, m, 2), -2);
            three.is(three.against(0, m, 2), -2);
        }
        Run two = Run.on(TWO);
        two.is(two.wrong(0, 30, 2), 0);
        two.is(two.against(0, 30, 2), -1);
        for (int m : new int[] {31, 32, 99}) {
            two.is(two.wrong(0, m, 2), -2);
            two.is(two.against(0, m, 2), -2);
        }
        Run one = Run.on(ONE);
        one.is(one.wrong(0, 99, 2), 0);
        one.is(one.against(0, 99, 2), -1);
        Run none = Run.on("dusk d;claim c at d 0;");
        none.is(none.wrong(0, 99, 2), 0);
        none.is(none.against(0, 99, 2), -1);
        none.is(none.mend(0, 99, 2), 0);
    }

    /** Terms 3: MEND is "SPENT, if there are more than 16 ROWS": 16 of one START, 16 of two, 8 of three are not. */
    static void t3SpentAbove16Rows() {
        Run one = Run.on(ONE);
        one.is(one.mend(0, 15, 2), 0);
        one.is(one.mend(0, 16, 2), -2);
        one.is(one.mend(0, 99, 2), -2);
        Run two = Run.on(TWO);
        two.is(two.mend(0, 3, 2), 0);
        two.is(two.mend(0, 4, 2), -2);
        two.is(two.mend(0, 99, 2), -2);
        Run three = Run.on(THREE);
        three.is(three.mend(0, 1, 2), 0);
        three.is(three.mend(0, 2, 2), -2);
        three.is(three.mend(0, 99, 2), -2);
    }

    private static void mended(Run x, int claim, int m, int beats, int... want) {
        x.is(x.mend(claim, m, beats), want.length);
        x.lie(want);
    }

    private static void notMended(Run x, int claim, int m, int beats) {
        x.is(x.mend(claim, m, beats), -1);
        x.lie();
    }

    /** Terms 3: MEND gives "other BEATS (1 .. 9)": 1 and 9 are given, 0 and 10 not. */
    static void t3MendBy1To9Beats() {
        Run x = Run.on("start a;dusk d;way a to d in 5;claim c at d a;claim n at d 0;");
        // There in beat 6; at the soonest in 2, at the latest in 10.
        mended(x, 0, 3, 6);
        mended(x, 0, 3, 5, 1);
        mended(x, 0, 3, 2, 1);
        notMended(x, 0, 3, 1);
        mended(x, 1, 3, 5);
        mended(x, 1, 3, 6, 6);
        mended(x, 1, 3, 8, 8);
        mended(x, 1, 3, 9, 9);
        notMended(x, 1, 3, 10);
        x.is(x.way(0, 2), 5);
    }

    /** Terms 3: "MEND: the fewest WAYS (2 at most)": none, one, two; not three. */
    static void t3MendBy2WaysAtMost() {
        String ways = "start a;start b;start c;dusk d;way a to d in 5;way b to d in 5;way c to d in 5;";
        Run x = Run.on(ways + "claim n at d 0;claim a at d a;claim b at d a+b;claim c at d a+b+c;");
        mended(x, 0, 1, 5);
        mended(x, 1, 1, 5, 1);
        mended(x, 2, 1, 5, 1, 11);
        notMended(x, 3, 1, 5);
        mended(x, 3, 1, 6);
        for (int way = 0; way < 3; way++) {
            x.is(x.way(way, 2), 5);
        }
    }

    /** Terms 3: MEND, "so that it is RIGHT for all ROWS": for the last of them, too. */
    static void t3MendForAllRows() {
        Run x = Run.on("start a;dusk d;way a to d in 5;claim c at d a*(a=15);claim e at d a*(a<15);claim f at d a*(a<1);");
        // Only of 15 geese, or of fewer, five beats are too many, or too few.
        mended(x, 0, 14, 5);
        notMended(x, 0, 15, 5);
        mended(x, 1, 14, 5, 1);
        notMended(x, 1, 15, 5);
        mended(x, 2, 15, 5);
        mended(x, 2, 0, 6);
        mended(x, 2, 1, 6, 6);
    }

    /** Terms 3: MEND "of like ones the first (the less numbered WAY, its BEATS, then the other one, its BEATS)". */
    static void t3MendTheFirstOfLikeOnes() {
        Run x = Run.on("start a;join j;dusk d;way a to j in 3;way j to d in 3;claim c at d a;claim n at d 0;");
        // There in beat 1 + 3 + 3; either way alone would do.
        mended(x, 0, 2, 6, 1);
        mended(x, 0, 2, 5, 1);
        mended(x, 0, 2, 4, 1, 11);
        mended(x, 0, 2, 3, 1, 11);
        notMended(x, 0, 2, 2);
        mended(x, 1, 2, 7, 4);
        mended(x, 1, 2, 8, 5);
        mended(x, 1, 2, 12, 9);
        mended(x, 1, 2, 13, 4, 19);
        mended(x, 1, 2, 14, 5, 19);
        mended(x, 1, 2, 18, 9, 19);
        notMended(x, 1, 2, 19);
        // The less numbered way first, though it is farther on.
        Run y = Run.on("start a;join j;dusk d;way j to d in 3;way a to j in 3;claim c at d a;claim n at d 0;");
        mended(y, 0, 2, 6, 1);
        mended(y, 1, 2, 13, 4, 19);
    }

    /** MEND of the last of sixteen WAYS: 10 * 15 and its BEATS. */
    static void t3MendTheLastOf16Ways() {
        StringBuilder text = new StringBuilder("start a;start i;dusk d;");
        for (char c = 'j'; c <= 'p'; c++) {
            text.append("split ").append(c).append(";");
        }
        for (char c = 'j'; c <= 'p'; c++) {
            text.append("way ").append(c).append(" to j in 1;way ").append(c).append(" to j in 1;");
        }
        text.append("way a to j in 5;way i to d in 5;claim c at d i;claim n at d 0;");
        Run x = Run.on(text.toString());
        x.is(x.about(2), 16);
        mended(x, 0, 1, 6);
        mended(x, 0, 1, 5, 151);
        mended(x, 1, 1, 9, 159);
        notMended(x, 1, 1, 10);
        x.is(x.way(15, 2), 5);
    }

    /** LOSS of one goose of n on way 0 in beat 1, at tower 2 behind 9 beats. */
    private static void loss(String text, int n, int want) {
        Run x = Run.on(text);
        x.row(0, n);
        x.is(x.loss(0, 1, 2, 9), want);
    }

    /** Terms 3: "LOSS: by how much less is RECKONED .. if one goose of those that set out on a WAY in a BEAT is LOST at once": at each sort's edges. */
    static void t3LossAtEachSort() {
        String[] sorts = {"join j", "fox j 3", "wind j 4", "pond j 3", "bread j 5", "split j", "odd j"};
        // By sort, for 1, 2, 3, 4, 5 geese.
        int[][] want = {{1, 1, 1, 1, 1}, {0, 0, 0, 1, 1}, {0, 0, 0, 4, 0}, {0, 0, 3, 0, 0}, {6, 1, 1, 1, 1}, {0, 1, 0, 1, 0}, {1, -1, 3, -3, 5}};
        for (int sort = 0; sort < sorts.length; sort++) {
            for (int n = 1; n <= 5; n++) {
                loss("start a;" + sorts[sort] + ";dusk d;way a to j in 1;way j to d in 1;", n, want[sort][n - 1]);
            }
        }
        loss("start a;join j;dusk d;way a to d in 1;", 0, 0);
    }

    /** Terms 3: "BLIND at a dusk: how many (WAY, BEAT) there are in which some set out, but the loss of one changes nothing there": none, all. */
    static void t3BlindNoneToAll() {
        Run x = Run.on("start a;join j;dusk d;way a to j in 1;way j to j in 1;");
        x.is(x.blind(2, 100), 0);
        x.row(0, 1);
        for (int beats : new int[] {1, 2, 3, 99, 100}) {
            x.is(x.blind(2, beats), beats);
        }
        Run y = Run.on("start a;dusk d;dusk e;way a to d in 2;");
        y.row(0, 1);
        // There in beat 3: seen from then on; at e never.
        y.is(y.blind(1, 1), 1);
        y.is(y.blind(1, 2), 1);
        y.is(y.blind(1, 3), 0);
        y.is(y.blind(1, 100), 0);
        y.is(y.blind(2, 100), 1);
        // Of two starts, both in one beat.
        Run z = Run.on("start a;start b;dusk d;way a to d in 1;way b to d in 1;");
        z.row(0, 1);
        z.is(z.blind(2, 1), 1);
        z.row(1, 1);
        z.is(z.blind(2, 1), 2);
        z.is(z.blind(2, 2), 0);
    }

    /** Terms 3: BLIND of sixteen WAYS: all of them unseen where nobody comes, none where each goose counts. */
    static void t3BlindOf16Ways() {
        StringBuilder text = new StringBuilder("start a;dusk d;dusk e;");
        for (char c = 'p'; c <= 'v'; c++) {
            text.append("split ").append(c).append(";");
        }
        text.append("way a to p in 1;way p to q in 1;way p to r in 1;way q to s in 1;way q to t in 1;way r to u in 1;way r to v in 1;");
        text.append("way s to d in 1;way s to d in 1;way t to d in 1;way t to d in 1;way u to d in 1;way u to d in 1;way v to d in 1;way v to d in 1;");
        Run x = Run.on(text.toString());
        x.row(0, 8);
        x.is(x.blind(1, 100), 0);
        x.is(x.blind(2, 100), 15);
        x.is(x.blind(1, 4), 15);
        x.is(x.blind(1, 3), 7);
        Run y = Run.on(text.toString().replace("dusk e;", "start e;") + "way e to d in 1;");
        y.is(y.about(2), 16);
        y.row(0, 8);
        y.row(1, 1);
        y.is(y.blind(1, 100), 0);
        y.is(y.blind(1, 4), 15);
        y.is(y.blind(1, 1), 2);
        y.is(y.loss(15, 1, 1, 2), 1);
        y.is(y.loss(16, 1, 1, 2), -1);
    }

    /** Terms 3: ADDS "for how many pairs a, b (0 less than a, a not above b, together m at most)": each m of 0 .. 40. */
    static void t3AddsOfEachM() {
        Run x = Run.on("start a;bread k 5;dusk d;dusk e;way a to k in 1;way k to d in 1;");
        // 5 more for both, 5 more for each: no pair adds at d. At e all do.
        int pairs = 0;
        for (int m = 0; m <= 40; m++) {
            pairs += m / 2;
            x.is(x.adds(0, 2, m, 9, 0), pairs);
            x.is(x.adds(0, 2, m, 9, 1), m < 2 ? -1 : 1);
            x.is(x.adds(0, 2, m, 9, 2), m < 2 ? -1 : 1);
            x.is(x.adds(0, 3, m, 9, 0), 0);
            x.is(x.adds(0, 3, m, 9, 1), -1);
        }
        Check.due("pairs of 0 .. 40", pairs, 400);
    }

    /** Terms 3: ADDS, "the first such (a counts most)": of 1 .. 5 are reckoned 0 0 3 3 3; 1 and 2 come ahead of 2 and 2. */
    static void t3AddsTheFirst() {
        Run x = Run.on("start a;wind w 3;dusk d;way a to w in 1;way w to d in 1;");
        int[] many = {0, 0, 0, 1, 2, 2};
        for (int m = 0; m <= 5; m++) {
            x.is(x.adds(0, 2, m, 9, 0), many[m]);
            x.is(x.adds(0, 2, m, 9, 1), m < 3 ? -1 : 1);
            x.is(x.adds(0, 2, m, 9, 2), m < 3 ? -1 : 2);
        }
        Run y = Run.on("start a;wind w 40;dusk d;way a to w in 1;way w to d in 1;");
        y.is(y.adds(0, 2, 39, 9, 1), -1);
        y.is(y.adds(0, 2, 40, 9, 0), 20);
        y.is(y.adds(0, 2, 40, 9, 1), 1);
        y.is(y.adds(0, 2, 40, 9, 2), 39);
    }

    /** Terms 3: ADDS "from one START (0 at all others)": whatever the ROW at hand has there. */
    static void t3AddsFromOneStart() {
        Run x = Run.on("start a;start b;odd o;dusk d;dusk e;way a to o in 1;way b to o in 1;way o to d in 1;way o to e in 1;");
        x.row(0, 7);
        x.row(1, 1);
        // Of 1, 2, 3 come 1, 0, 3 to d: 1 and 1, 1 and 2 do not add.
        for (int start = 0; start < 2; start++) {
            x.is(x.adds(start, 3, 3, 9, 0), 2);
            x.is(x.adds(start, 3, 3, 9, 1), 1);
            x.is(x.adds(start, 3, 3, 9, 2), 1);
        }
        x.is(x.row(0, 0), 7);
        x.is(x.row(1, 0), 1);
    }

    // ==== Promises 15 to 24 ====

    /** Promise 15: "The ROW has so many at a START (.. 0 .. 999): how many it had; NONE, doing nothing, if one can't be". */
    static void p15Row() {
        Run x = Run.on(TWO);
        x.is(x.row(0, 0), 0);
        x.is(x.row(0, 999), 0);
        x.is(x.row(1, 1), 0);
        for (int n : new int[] {-1, 1000, 1001, Integer.MIN_VALUE, Integer.MAX_VALUE}) {
            x.is(x.row(0, n), -1);
            x.is(x.row(1, n), -1);
        }
        for (int start : new int[] {-1, 2, 3, Integer.MIN_VALUE, Integer.MAX_VALUE}) {
            x.is(x.row(start, 5), -1);
        }
        x.is(x.says(0), 1000);
        x.is(x.row(0, 998), 999);
        x.is(x.row(0, 998), 998);
        x.is(x.row(1, 0), 1);
        Run none = Run.on("dusk d;");
        none.is(none.row(0, 0), -1);
    }

    /** Promise 15: "(by number of STARTS ..)": not of TOWERS. */
    static void p15RowByNumberOfStarts() {
        Run x = Run.on("join j;start a;dusk d;start b;start c;way a to d in 1;way b to d in 2;way c to d in 3;claim x at d a*1000*1000+b*1000+c;");
        for (int start = 0; start < 3; start++) {
            x.is(x.row(start, start + 1), 0);
        }
        x.is(x.row(3, 1), -1);
        x.is(x.row(4, 1), -1);
        x.is(x.says(0), 1002003);
        x.is(x.reckon(2, 2), 1);
        x.is(x.reckon(2, 3), 3);
        x.is(x.reckon(2, 4), 6);
    }

    /** Promise 16: "RECKONED at a TOWER that is a dusk ..: how many; NONE if one can't be": each sort. */
    static void p16Reckon() {
        Run x = Run.on("start a;join b;split c;odd e;dusk d;pond f 1;fox g 1;bread h 1;wind i 1;dusk k;way a to d in 1;");
        x.row(0, 999);
        for (int tower = 0; tower < 10; tower++) {
            x.is(x.reckon(tower, 2), tower == 4 ? 999 : tower == 9 ? 0 : -1);
        }
        for (int tower : new int[] {-1, 10, 11, Integer.MIN_VALUE, Integer.MAX_VALUE}) {
            x.is(x.reckon(tower, 2), -1);
        }
        Run none = new Run();
        none.is(none.reckon(0, 1), -1);
    }

    /** Promise 17: "STILL: the BEAT; NONE if it is not within 200": for no ROW, and without TOWERS, 0. */
    static void p17Still() {
        Run none = new Run();
        none.is(none.still(), 0);
        Run x = Run.on("start a;join j;join k;way a to j in 1;way j to k in 9;way k to j in 9;");
        x.is(x.still(), 0);
        x.row(0, 999);
        x.is(x.still(), -1);
        x.row(0, 0);
        x.is(x.still(), 0);
    }

    /** Promise 18: "What a CLAIM says of the ROW at hand; 0 if there is none such". */
    static void p18Says() {
        Run x = Run.on("start a;dusk d;claim a at d 1;claim b at d 2;claim c at d 3;claim e at d 4;claim f at d 5;claim g at d a+6;");
        x.row(0, 999);
        for (int claim = 0; claim < 5; claim++) {
            x.is(x.says(claim), claim + 1);
        }
        x.is(x.says(5), 1005);
        x.is(x.says(6), 0);
        for (int far : FAR) {
            x.is(x.says(far), 0);
        }
        Run none = Run.on("start a;dusk d;");
        none.is(none.says(0), 0);
    }

    /** Promises 19, 20, 21: "NONE if one can't be": no such CLAIM. */
    private static void noSuchClaim(Run x, int claim) {
        x.is(x.wrong(claim, 1, 2), -1);
        x.is(x.against(claim, 1, 2), -1);
        x.is(x.mend(claim, 1, 2), -1);
    }

    /** Promise 19: "For how many ROWS a CLAIM is WRONG": none of 1,000, all of 1,000, one; of one ROW. */
    static void p19WrongNoneToAll() {
        Run x = Run.on(THREE + "claim e at d a+b+c+1;claim f at d a+b+c+(a+b+c=27);claim g at d a+b+c+(a+b+c=0);");
        x.is(x.wrong(0, 9, 2), 0);
        x.is(x.wrong(1, 9, 2), 1000);
        x.is(x.wrong(2, 9, 2), 1);
        x.is(x.wrong(2, 8, 2), 0);
        x.is(x.wrong(3, 9, 2), 1);
        x.is(x.wrong(0, 0, 2), 0);
        x.is(x.wrong(1, 0, 2), 1);
        x.is(x.wrong(3, 0, 2), 1);
        Run none = Run.on("dusk d;claim c at d 0;claim e at d 1;");
        none.is(none.wrong(0, 0, 1), 0);
        none.is(none.wrong(1, 0, 1), 1);
        none.is(none.wrong(1, 99, 100), 1);
    }

    /** Promise 19: "(m 0 .. 99); NONE if one can't be": for promises 20 and 21 as well. */
    static void p19M0To99() {
        Run x = Run.on(ONE);
        x.is(x.wrong(0, 0, 2), 0);
        x.is(x.wrong(0, 99, 2), 0);
        x.is(x.wrong(0, 99, 1), 99);
        for (int m : new int[] {-1, 100, 101, Integer.MIN_VALUE, Integer.MAX_VALUE}) {
            x.is(x.wrong(0, m, 2), -1);
            x.is(x.against(0, m, 2), -1);
            x.is(x.mend(0, m, 2), -1);
        }
        noSuchClaim(x, 1);
        for (int far : FAR) {
            noSuchClaim(x, far);
        }
        noSuchClaim(Run.on("start a;dusk d;"), 0);
        noSuchClaim(new Run(), 0);
        // What can't be comes ahead of SPENT.
        Run three = Run.on(THREE);
        three.is(three.wrong(0, 99, 0), -1);
        three.is(three.wrong(1, 99, 2), -1);
        three.is(three.wrong(0, 100, 2), -1);
        three.is(three.wrong(0, 99, 101), -1);
        three.is(three.wrong(0, 99, 100), -2);
    }

    /** Promise 20: "how many ROWS ahead of it are RIGHT": none, 999; "The ROW lies there then, by STARTS". */
    static void p20AgainstTheFirstToTheLast() {
        Run x = Run.on(THREE + "claim e at d a+b+c+1;claim f at d a+b+c+(a+b+c=27);claim g at d a+b+c+(a+b+c=26);");
        x.is(x.against(1, 9, 2), 0);
        x.lie(0, 0, 0);
        x.is(x.against(2, 9, 2), 999);
        x.lie(9, 9, 9);
        x.is(x.against(3, 9, 2), 899);
        x.lie(8, 9, 9);
        x.is(x.against(1, 0, 2), 0);
        x.lie(0, 0, 0);
        Run one = Run.on(ONE + "claim e at d a+(a=99);");
        one.is(one.against(1, 99, 2), 99);
        one.lie(99);
        one.is(one.against(1, 98, 2), -1);
        Run none = Run.on("dusk d;claim c at d 1;");
        none.is(none.against(0, 5, 2), 0);
        none.lie();
    }

    /** Promise 20: "(behind NONE, -2: nothing)": NONE as there is none, NONE as one can't be, SPENT. */
    static void p20NothingLiesBehindNone() {
        Run x = Run.on(TWO + "claim e at d 9;");
        int[][] none = {{0, 5, 2}, {2, 5, 2}, {1, 100, 2}, {1, -1, 2}, {1, 5, 0}, {1, 5, 101}, {1, 31, 2}};
        for (int[] given : none) {
            x.is(x.against(1, 5, 2), 0);
            x.lie(0, 0);
            x.is(x.against(given[0], given[1], given[2]), given[1] == 31 ? -2 : -1);
            x.lie();
        }
    }

    /** Promise 21: "Of each 10 * the WAY and its BEATS lie there then (behind NONE, -2: nothing)": behind 0 nothing, too. */
    static void p21WhatLiesBehindMend() {
        Run x = Run.on("start a;start b;dusk d;way a to d in 5;way b to d in 5;claim c at d a+b;claim e at d a+b+1;");
        int[][] none = {{0, 2, 6}, {1, 2, 6}, {2, 2, 4}, {0, -1, 4}, {0, 100, 4}, {0, 2, 0}, {0, 2, 101}, {0, 4, 4}};
        int[] want = {0, -1, -1, -1, -1, -1, -1, -2};
        for (int i = 0; i < none.length; i++) {
            mended(x, 0, 2, 4, 1, 11);
            x.is(x.mend(none[i][0], none[i][1], none[i][2]), want[i]);
            x.lie();
        }
        x.is(x.way(0, 2), 5);
        x.is(x.way(1, 2), 5);
    }

    /** Promise 21: "NONE if 2 are not enough": without WAYS, with one, with those that lead elsewhere. */
    static void p21MendNotEnough() {
        Run none = Run.on("start a;dusk d;claim c at d a;");
        notMended(none, 0, 1, 100);
        mended(none, 0, 0, 100);
        Run one = Run.on("start a;dusk d;dusk e;way a to e in 1;claim c at d a;claim f at e a+1;");
        notMended(one, 0, 1, 100);
        notMended(one, 1, 1, 100);
        notMended(one, 1, 0, 100);
    }

    /** Promise 22: "LOSS on a WAY in a BEAT; 0 if none set out; NONE if one can't be (a BEAT beyond, too)". */
    static void p22Loss() {
        Run x = Run.on("start a;dusk d;way a to d in 1;");
        x.row(0, 5);
        x.is(x.loss(0, 1, 1, 1), 0);
        x.is(x.loss(0, 1, 1, 2), 1);
        x.is(x.loss(0, 2, 1, 2), 0);
        x.is(x.loss(0, 3, 1, 2), -1);
        x.is(x.loss(0, 2, 1, 1), -1);
        x.is(x.loss(0, 0, 1, 2), -1);
        x.is(x.loss(0, 100, 1, 100), 0);
        x.is(x.loss(0, 101, 1, 100), -1);
        x.is(x.loss(0, 1, 1, 100), 1);
        for (int far : FAR) {
            x.is(x.loss(far, 1, 1, 2), -1);
            x.is(x.loss(0, far, 1, 2), -1);
            x.is(x.loss(0, 1, far, 2), -1);
            x.is(x.loss(0, 1, 1, far), -1);
        }
        x.is(x.loss(1, 1, 1, 2), -1);
        x.is(x.loss(0, 1, 0, 2), -1);
        x.is(x.loss(0, 1, 2, 2), -1);
        x.is(x.loss(0, 1, 1, 0), -1);
        x.is(x.loss(0, 1, 1, 101), -1);
        x.row(0, 0);
        x.is(x.loss(0, 1, 1, 2), 0);
        Run none = Run.on("start a;dusk d;");
        none.is(none.loss(0, 1, 1, 2), -1);
    }

    /** Promise 22: a LOSS in the last BEAT that can be told: set out in beat 99, there in beat 100; set out in beat 100, not yet. */
    static void p22LossInTheLastBeat() {
        Run x = Run.on(DRIP);
        x.row(0, 999);
        x.is(x.loss(1, 98, 2, 100), 1);
        x.is(x.loss(1, 99, 2, 100), 1);
        x.is(x.loss(1, 100, 2, 100), 0);
        x.is(x.loss(1, 2, 2, 100), 1);
        x.is(x.loss(1, 1, 2, 100), 0);
    }

    /** Promise 23: "BLIND at a dusk: how many; NONE if one can't be". */
    static void p23Blind() {
        Run x = Run.on("start a;dusk d;way a to d in 1;");
        x.row(0, 5);
        x.is(x.blind(1, 1), 1);
        x.is(x.blind(1, 2), 0);
        x.is(x.blind(0, 2), -1);
        x.is(x.blind(2, 2), -1);
        for (int far : FAR) {
            x.is(x.blind(far, 2), -1);
            x.is(x.blind(1, far), -1);
        }
        x.is(x.blind(1, 0), -1);
        x.is(x.blind(1, 101), -1);
        Run none = new Run();
        none.is(none.blind(0, 1), -1);
    }

    /** Promise 24: "NONE if one can't be (m 0 .. 40)"; another what. */
    static void p24Adds() {
        Run x = Run.on("start a;start b;bread k 5;dusk d;way a to k in 1;way k to d in 1;");
        x.is(x.adds(0, 3, 40, 9, 0), 400);
        x.is(x.adds(0, 3, 39, 9, 0), 380);
        x.is(x.adds(0, 3, 0, 9, 0), 0);
        x.is(x.adds(1, 3, 40, 9, 0), 0);
        for (int what = 0; what <= 2; what++) {
            x.is(x.adds(0, 3, 41, 9, what), -1);
            x.is(x.adds(0, 3, -1, 9, what), -1);
            x.is(x.adds(2, 3, 9, 9, what), -1);
            x.is(x.adds(-1, 3, 9, 9, what), -1);
            x.is(x.adds(0, 2, 9, 9, what), -1);
            x.is(x.adds(0, 4, 9, 9, what), -1);
            x.is(x.adds(0, -1, 9, 9, what), -1);
            x.is(x.adds(0, 3, 9, 0, what), -1);
            x.is(x.adds(0, 3, 9, 101, what), -1);
            for (int far : FAR) {
                x.is(x.adds(far, 3, 9, 9, what), -1);
                x.is(x.adds(0, far, 9, 9, what), -1);
                x.is(x.adds(0, 3, far, 9, what), -1);
                x.is(x.adds(0, 3, 9, far, what), -1);
            }
        }
        x.is(x.adds(0, 3, 9, 9, -1), -1);
        x.is(x.adds(0, 3, 9, 9, 3), -1);
        for (int far : FAR) {
            x.is(x.adds(0, 3, 9, 9, far), -1);
        }
        Run none = new Run();
        none.is(none.adds(0, 0, 0, 1, 0), -1);
    }
}
