/** Promises 25 to 32: paths, meeting, spreading, rings; pairs, chains, what lies there. */
public final class PathTest {
    public static void main(String[] args) {
        paths();
        manyPaths();
        meet();
        spread();
        ring();
        longRing();
        pairs();
        chain();
        lies();
        Check.close("PathTest");
    }

    private static void paths() {
        GeeseSums x = Check.on("start a;split s;join j;dusk d;way a to s in 2;way s to j in 1;way s to j in 3;way j to d in 4;");
        Check.due("of no beats", x.paths(0, 0, 0), 1);
        Check.due("to another of no beats", x.paths(0, 1, 0), 0);
        Check.due("one way", x.paths(0, 1, 2), 1);
        Check.due("two ways", x.paths(0, 2, 3), 1);
        Check.due("two other ways", x.paths(0, 2, 5), 1);
        Check.due("not in between", x.paths(0, 2, 4), 0);
        Check.due("three ways", x.paths(0, 3, 7), 1);
        Check.due("backward", x.paths(3, 0, 7), 0);
        Check.due("60 beats", x.paths(0, 3, 60), 0);
        Check.due("61 beats", x.paths(0, 3, 61), -1);
        Check.due("-1 beats", x.paths(0, 3, -1), -1);
        Check.due("no tower", x.paths(4, 3, 1), -1);
        Check.due("no tower", x.paths(0, 4, 1), -1);
        Check.due("no tower", x.paths(-1, 0, 1), -1);
        Check.due("no tower", x.paths(0, -1, 1), -1);
        GeeseSums y = Check.on("split s;join j;way s to j in 1;way s to j in 1;way j to s in 1;");
        Check.due("two of the same beats", y.paths(0, 1, 1), 2);
        Check.due("round and round", y.paths(0, 0, 6), 8);
    }

    private static void manyPaths() {
        GeeseSums x = Check.on("split s;way s to s in 1;way s to s in 1;");
        Check.due("2 to the 29th", x.paths(0, 0, 29), 1 << 29);
        Check.due("2 to the 30th", x.paths(0, 0, 30), 1000000000);
        Check.due("2 to the 60th", x.paths(0, 0, 60), 1000000000);
        GeeseSums y = Check.on("split s;split t;dusk d;way s to t in 1;way s to d in 1;way t to s in 1;way t to t in 1;");
        Check.due("many", y.paths(0, 1, 40), 102334155);
        Check.due("more", y.paths(0, 1, 44), 701408733);
        Check.due("too many", y.paths(0, 1, 45), 1000000000);
    }

    private static void meet() {
        GeeseSums x = Check.on("start a;start b;join j;dusk d;way a to j in 1;way b to j in 2;way j to d in 1;");
        Check.due("never", x.meet(0, 1, 3), -1);
        Check.due("with itself", x.meet(0, 0, 3), 2);
        Check.due("where it is", x.meet(3, 3, 3), 0);
        Check.due("not where only one is", x.meet(3, 0, 3), -1);
        Check.due("no tower", x.meet(4, 0, 3), -1);
        Check.due("no tower", x.meet(0, 4, 3), -1);
        Check.due("no tower", x.meet(0, 0, 4), -1);
        Check.due("no tower", x.meet(0, 0, -1), -1);
        GeeseSums y = Check.on("start a;start b;split s;join j;dusk d;way a to s in 1;way s to j in 2;way s to s in 3;way b to j in 9;way j to d in 1;");
        // a: 4, 7, 10 ..; b: 10.
        Check.due("in ten", y.meet(0, 1, 4), 10);
        Check.due("the other way about", y.meet(1, 0, 4), 10);
        Check.due("nine", y.meet(0, 1, 3), 9);
        GeeseSums z = Check.on("split s;split t;dusk d;way s to s in 7;way s to d in 9;way t to t in 9;way t to d in 2;");
        // s: 9, 16, 23, 30, 37, 44, 51, 58; t: 2, 11, 20, 29, 38, 47, 56.
        Check.due("not within 60", z.meet(0, 1, 2), -1);
        GeeseSums w = Check.on("split s;split t;dusk d;way s to s in 7;way s to d in 4;way t to t in 9;way t to d in 6;");
        // s: 4 .. 53, 60; t: 6 .. 51, 60.
        Check.due("in 60", w.meet(0, 1, 2), 60);
    }

    private static void spread() {
        GeeseSums x = Check.on("start a;split s;join j;dusk d;way a to s in 2;way s to j in 1;way s to j in 3;way j to d in 4;");
        Check.due("two", x.spread(0, 3), 2);
        Check.due("none", x.spread(3, 0), 0);
        Check.due("none to fly", x.spread(3, 3), 1);
        Check.due("no tower", x.spread(4, 0), -1);
        Check.due("no tower", x.spread(0, -1), -1);
        GeeseSums y = Check.on("join j;way j to j in 4;");
        Check.due("0, 4 .. 60", y.spread(0, 0), 16);
        GeeseSums z = Check.on("split j;way j to j in 1;way j to j in 2;");
        Check.due("all", z.spread(0, 0), 61);
    }

    private static void ring() {
        GeeseSums x = Check.on("start a;join j;join k;split s;dusk d;way a to j in 1;way j to k in 1;way k to s in 1;way s to j in 1;way s to d in 1;");
        Check.due("j, k, s", x.ring(), 14);
        GeeseSums y = Check.on("start a;way a to a in 1;join b;");
        Check.due("a alone", y.ring(), 1);
        GeeseSums z = Check.on("dusk d;join j;way j to d in 1;");
        Check.due("none", z.ring(), 0);
    }

    private static void longRing() {
        StringBuilder text = new StringBuilder();
        for (int i = 0; i < 10; i++) {
            text.append("join ").append((char) ('b' + i)).append(";");
        }
        for (int i = 0; i < 10; i++) {
            text.append("way ").append((char) ('b' + i)).append(" to ").append((char) ('b' + (i + 7) % 10)).append(" in 9;");
        }
        GeeseSums x = Check.on(text.toString());
        Check.due("a ring of 90 beats", x.ring(), 1023);
        Check.due("no path of 60 comes back", x.spread(0, 0), 1);
    }

    private static void pairs() {
        GeeseSums x = new GeeseSums();
        Check.due("pair(-1, 0)", x.pair(-1, 0), -1);
        Check.due("pair(0, -1)", x.pair(0, -1), -1);
        Check.due("pair(1000, 0)", x.pair(1000, 0), -1);
        Check.due("pair(0, 1000)", x.pair(0, 1000), -1);
        Check.due("hush of none", x.hush(), 0);
        Check.due("pair(0, 0)", x.pair(0, 0), 1);
        Check.due("pair(999, 999)", x.pair(999, 999), 2);
        Check.due("pair(5, 5)", x.pair(5, 5), 3);
        Check.due("pair(5, 5) again", x.pair(5, 5), 4);
        Check.due("a fifth", x.pair(5, 5), -1);
        Check.due("about(8)", x.about(8), 4);
        Check.due("chain of none", x.chain(), 0);
        Check.due("hush", x.hush(), 4);
        Check.due("about(8)", x.about(8), 0);
        Check.due("pair(1, 2)", x.pair(1, 2), 1);
    }

    /** The chain for the pairs: how many, then their sorts. */
    private static void chain(int[] pairs, int want, int... sorts) {
        GeeseSums x = new GeeseSums();
        StringBuilder what = new StringBuilder("chain for");
        for (int i = 0; i < pairs.length; i += 2) {
            x.pair(pairs[i], pairs[i + 1]);
            what.append(" ").append(pairs[i]).append("->").append(pairs[i + 1]);
        }
        Check.due(what.toString(), x.chain(), want);
        Check.lies(what.toString(), x, sorts);
    }

    private static void chain() {
        chain(new int[] {}, 0);
        chain(new int[] {7, 7}, 0);
        chain(new int[] {7, 3}, 1, 0);
        chain(new int[] {7, 8}, 1, 1);
        chain(new int[] {7, 6}, 1, 2);
        chain(new int[] {7, 14}, 1, 3);
        // Of like ones the first: 1 to 0 by half, 1 to 2 by one more, 2 to 1 by half.
        chain(new int[] {1, 0}, 1, 0);
        chain(new int[] {1, 2}, 1, 1);
        chain(new int[] {2, 1}, 1, 0);
        chain(new int[] {0, 0, 1, 0}, 1, 0);
        chain(new int[] {0, 0, 2, 1, 3, 2}, 1, 2);
        chain(new int[] {5, 3}, 2, 0, 1);
        chain(new int[] {5, 3, 9, 7}, 2, 2, 2);
        chain(new int[] {0, 128}, 8, 1, 1, 3, 3, 3, 3, 3, 3);
        chain(new int[] {0, 129}, -1);
        chain(new int[] {999, 3}, 8, 0, 0, 0, 0, 0, 0, 0, 0);
        chain(new int[] {3, 768}, 8, 3, 3, 3, 3, 3, 3, 3, 3);
        chain(new int[] {3, 999}, -1);
        chain(new int[] {5, 6, 5, 7}, -1);
        chain(new int[] {1, 1, 2, 3, 3, 3}, 3, 0, 3, 1);
        chain(new int[] {5, 4, 4, 4}, 2, 0, 3);
        chain(new int[] {10, 3, 11, 3, 12, 4}, 3, 0, 0, 1);
    }

    private static void lies() {
        GeeseSums x = Check.on("start a;dusk d;way a to d in 2;claim c at d 0;");
        Check.lies("nothing yet", x);
        x.pair(7, 4);
        Check.due("chain", x.chain(), 2);
        Check.lies("chain", x, 0, 1);
        x.hush();
        x.pair(1, 1);
        x.wrong(0, 3, 5);
        x.sure(0, 3, 0);
        x.begin(0, 1);
        x.beats(1);
        x.undo();
        x.image(0);
        x.back(0);
        x.still();
        x.loss(0, 1, 1, 5);
        Check.lies("it still lies there", x, 0, 1);
        Check.due("against", x.against(0, 3, 5), 1);
        Check.lies("against", x, 1);
        Check.due("no chain", x.pair(3, 999), 2);
        Check.due("no chain", x.chain(), -1);
        Check.lies("no chain", x);
        Check.due("begun", x.begun(5, 0), 6);
        Check.lies("begun", x, 0);
        Check.due("lies(NONE)", x.lies(Integer.MIN_VALUE), -1);
        Check.due("lies(far)", x.lies(Integer.MAX_VALUE), -1);
    }
}
