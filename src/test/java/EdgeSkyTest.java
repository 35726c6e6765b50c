/**
 * The boundary cases that the document names: "Terms" 2 (t2..), promises 6 to 14 and 38 to 40 (p06 .. p40). One test a sentence; its
 * remark tells the sentence.
 */
public final class EdgeSkyTest {
    private static final int[] FAR = {Integer.MIN_VALUE, -1000, -1, Integer.MAX_VALUE};

    public static void main(String[] args) throws ReflectiveOperationException {
        Check.edges(EdgeSkyTest.class);
        Check.close("EdgeSkyTest");
    }

    /** So many begun at START 0 and flown for so many beats. */
    private static Run flown(String text, int n, int beats) {
        Run x = Run.on(text);
        if (n > 0) {
            x.is(x.begin(0, n), n);
        }
        x.is(x.beats(beats), beats);
        return x;
    }

    // ==== Terms 2: what goes on in a BEAT ====

    /** Terms 2: "all geese on WAYS come one nearer": a way of 1 BEAT, one of 9. */
    static void t2OneNearer() {
        Run x = Run.on("start a;start b;dusk d;way a to d in 1;way b to d in 9;");
        x.begin(0, 3);
        x.begin(1, 4);
        x.beats(1);
        x.is(x.flock(0, 1), 3);
        x.is(x.flock(1, 9), 4);
        x.is(x.tower(2, 2), 0);
        x.beats(1);
        x.is(x.flock(0, 1), 0);
        x.is(x.flock(1, 9), 0);
        x.is(x.flock(1, 8), 4);
        x.is(x.tower(2, 2), 3);
        x.beats(7);
        x.is(x.flock(1, 1), 4);
        x.is(x.tower(2, 2), 3);
        x.beats(1);
        x.is(x.way(1, 3), 0);
        x.is(x.tower(2, 2), 7);
    }

    /** Terms 2: "those that are there by then, and those that wait there, are together one FLOCK of that TOWER". */
    static void t2OneFlockTogether() {
        // Of two ways: a fox that takes 3 takes them once.
        Run x = Run.on("start a;start b;fox f 3;dusk d;way a to f in 2;way b to f in 1;way f to d in 1;");
        x.begin(0, 2);
        x.beats(1);
        x.begin(1, 2);
        x.beats(2);
        x.is(x.tower(2, 3), 1);
        x.is(x.geese(5), 3);
        x.is(x.way(2, 3), 1);
        // Of one way, set out at unlike beats, blown together by a gust: one flock too.
        Run y = Run.on("start a;fox f 3;way a to f in 2;");
        y.begin(0, 2);
        y.beats(1);
        y.begin(0, 2);
        y.gust();
        y.is(y.flock(0, 3), 2);
        y.beats(1);
        y.is(y.flock(0, 2), 4);
        y.beats(2);
        y.is(y.tower(1, 3), 1);
        y.is(y.geese(5), 3);
        // At a START those that come and those that wait.
        Run z = Run.on("start a;start b;odd o;dusk d;dusk e;way a to b in 1;way b to o in 1;way o to d in 1;way o to e in 1;");
        z.begin(0, 1);
        z.beats(1);
        z.begin(1, 1);
        z.beats(1);
        z.is(z.tower(1, 3), 1);
        z.is(z.tower(1, 2), 0);
        z.is(z.flock(1, 1), 2);
        z.beats(2);
        z.is(z.tower(4, 2), 2);
    }

    /** Terms 2: "TOWERS by number do with theirs, if there is one": with none nothing is done, in as many BEATS as can be. */
    static void t2NoFlockNothingDone() {
        Run x = Run.on("start a;join b;split c;odd e;dusk d;pond p 1;fox f 1;bread g 99;wind w 1;way a to b in 1;way b to c in 1;way c to e in 1;"
            + "way c to d in 1;way e to p in 1;way e to f in 1;way p to g in 1;way f to g in 1;way g to w in 1;way w to d in 1;");
        for (int i = 0; i < 16; i++) {
            x.beats(60);
        }
        x.is(x.beats(40), 1000);
        x.geeseAre(0, 0, 0, 0, 0, 0);
        for (int tower = 0; tower < 9; tower++) {
            x.is(x.tower(tower, 2), 0);
            x.is(x.tower(tower, 3), 0);
        }
    }

    /** Terms 2: "start, join: it flies on", all of it, of one goose or many, in the same BEAT. */
    static void t2StartAndJoin() {
        for (int n : new int[] {1, 2, 998, 999}) {
            Run x = flown("start a;join j;dusk d;way a to j in 1;way j to d in 1;", n, 1);
            x.is(x.way(0, 3), n);
            x.is(x.tower(0, 2), 0);
            x.beats(1);
            x.is(x.way(1, 3), n);
            x.is(x.tower(1, 2), 0);
            x.beats(1);
            x.geeseAre(n, 0, 0, n, 0, 0);
        }
    }

    /** Terms 2: "split: it and the one that circles there, if there is one, are halved (cut): each half flies on by one of the WAYS; the odd one circles there". */
    static void t2Split() {
        String text = "start a;split s;dusk d;dusk e;way a to s in 1;way s to d in 1;way s to e in 2;";
        int[] flocks = {1, 2, 3, 4, 5, 998, 999};
        for (int n : flocks) {
            Run x = flown(text, n, 2);
            x.is(x.flock(1, 1), n / 2);
            x.is(x.flock(2, 2), n / 2);
            x.is(x.tower(1, 2), n % 2);
            x.is(x.tower(1, 3), 1);
        }
        for (int n : flocks) {
            Run x = flown(text, 1, 2);
            x.is(x.tower(1, 2), 1);
            x.begin(0, n);
            x.beats(2);
            x.is(x.flock(1, 1), (n + 1) / 2);
            x.is(x.flock(2, 2), (n + 1) / 2);
            x.is(x.tower(1, 2), (n + 1) % 2);
            x.is(x.tower(1, 3), 2);
        }
        // The one that circles alone stays, however long.
        Run x = flown(text, 1, 60);
        x.is(x.tower(1, 2), 1);
        x.is(x.tower(1, 3), 1);
        x.geeseAre(1, 0, 0, 1, 0, 0);
    }

    /** Terms 2: "odd: it flies on by the first WAY, if it is odd, else by the second". */
    static void t2Odd() {
        for (int n : new int[] {1, 2, 3, 4, 998, 999}) {
            Run x = flown("start a;odd o;dusk d;dusk e;way a to o in 1;way o to d in 1;way o to e in 1;", n, 2);
            x.is(x.way(1, 3), n % 2 == 1 ? n : 0);
            x.is(x.way(2, 3), n % 2 == 1 ? 0 : n);
            x.is(x.tower(1, 2), 0);
        }
    }

    /** Terms 2: "fox: so many are TAKEN (all, if there are fewer), the rest flies on". */
    static void t2Fox() {
        for (int size : new int[] {1, 2, 98, 99}) {
            for (int n : new int[] {1, size - 1, size, size + 1, 999}) {
                if (n > 0) {
                    Run x = flown("start a;fox f " + size + ";dusk d;way a to f in 1;way f to d in 1;", n, 2);
                    int taken = n < size ? n : size;
                    x.geeseAre(n, 0, n - taken, 0, 0, taken);
                    x.is(x.way(1, 3), n - taken);
                    x.is(x.tower(1, 2), 0);
                    x.beats(1);
                    x.is(x.tower(2, 3), n > taken ? 1 : 0);
                }
            }
        }
    }

    /** Terms 2: "bread: it flies on, so many more (BRED)": none for no FLOCK, N for each one. */
    static void t2Bread() {
        for (int size : new int[] {1, 99}) {
            String text = "start a;bread k " + size + ";dusk d;way a to k in 1;way k to d in 1;";
            Run none = flown(text, 0, 60);
            none.geeseAre(0, 0, 0, 0, 0, 0);
            for (int n : new int[] {1, 999}) {
                Run x = flown(text, n, 2);
                x.geeseAre(n, size, n + size, 0, 0, 0);
                x.is(x.way(1, 3), n + size);
                x.begin(0, n);
                x.beats(3);
                x.geeseAre(2 * n, 2 * size, 0, 2 * (n + size), 0, 0);
            }
        }
    }

    /** Terms 2: "wind: so many as its rest by N are LOST, the rest flies on": no rest, all of it. */
    static void t2Wind() {
        for (int size : new int[] {1, 2, 4, 99}) {
            for (int n : new int[] {1, size - 1, size, size + 1, 2 * size - 1, 2 * size, 998, 999}) {
                if (n > 0) {
                    Run x = flown("start a;wind w " + size + ";dusk d;way a to w in 1;way w to d in 1;", n, 2);
                    x.geeseAre(n, 0, n - n % size, 0, n % size, 0);
                    x.is(x.way(1, 3), n - n % size);
                    x.is(x.tower(1, 2), 0);
                }
            }
        }
    }

    /** Terms 2: "dusk: they stay there", for ever. */
    static void t2Dusk() {
        Run x = flown("start a;dusk d;way a to d in 1;", 999, 2);
        x.begin(0, 1);
        x.beats(60);
        x.is(x.tower(1, 2), 1000);
        x.is(x.tower(1, 3), 2);
        x.geeseAre(1000, 0, 0, 1000, 0, 0);
    }

    /** Terms 2: "pond: they stay there; and, FLOCK or not, if N at least are there by then, N of them fly on". */
    static void t2Pond() {
        for (int size : new int[] {1, 3, 99}) {
            for (int n : new int[] {1, size - 1, size, size + 1, 2 * size - 1, 2 * size, 2 * size + 1, 3 * size}) {
                if (n > 0) {
                    Run x = flown("start a;pond p " + size + ";dusk d;way a to p in 1;way p to d in 9;", n, 2);
                    int there = n;
                    // In the beat of the flock, then without one.
                    for (int beat = 0; beat < 4; beat++) {
                        int fly = there >= size ? size : 0;
                        there -= fly;
                        x.is(x.flock(1, 9), fly);
                        x.is(x.tower(1, 2), there);
                        x.is(x.tower(1, 3), 1);
                        x.beats(1);
                    }
                }
            }
        }
        // What stays is there with the next flock.
        Run y = flown("start a;pond p 3;dusk d;way a to p in 1;way p to d in 9;", 2, 2);
        y.is(y.tower(1, 2), 2);
        y.begin(0, 1);
        y.beats(2);
        y.is(y.tower(1, 2), 0);
        y.is(y.flock(1, 9), 3);
    }

    /** Terms 2: "TOWERS by number do with theirs": whether the one ahead or the one behind is told first, it is the next BEAT's. */
    static void t2TowersByNumber() {
        String[] sorts = {"start", "join", "split", "odd", "dusk", "pond", "fox", "bread", "wind"};
        // Of 7 geese each 10 beats: how many came to the dusk, by sort.
        int[] there = {7, 7, 3, 7, 0, 3, 4, 10, 6};
        for (int sort = 0; sort < 9; sort++) {
            String one = sorts[sort] + " x" + (sort >= 5 ? " 3;" : ";");
            String[] orders = {one + "start a;join j;dusk d;", "start a;join j;" + one + "dusk d;", "dusk d;join j;start a;" + one,
                "dusk d;" + one + "join j;start a;"};
            for (String order : orders) {
                Run x = Run.on(order + "way a to j in 1;way j to x in 1;" + (sort == 4 ? "" : "way x to d in 1;"));
                int start = sort == 0 && order.indexOf("start x") < order.indexOf("start a") ? 1 : 0;
                int tower = towerOf(order, "x");
                x.begin(start, 7);
                x.beats(2);
                x.is(x.tower(tower, 3), 0);
                x.beats(1);
                x.is(x.tower(tower, 3), 1);
                x.is(x.tower(towerOf(order, "d"), 3), 0);
                x.beats(1);
                x.is(x.tower(towerOf(order, "d"), 2), there[sort]);
                x.is(x.tower(towerOf(order, "j"), 3), 1);
                x.is(x.tower(tower, 3), 1);
                x.begin(start, 7);
                x.beats(4);
                x.is(x.tower(tower, 3), 2);
            }
        }
    }

    private static int towerOf(String order, String name) {
        String[] lines = order.split(";");
        for (int i = 0; i < lines.length; i++) {
            if (lines[i].split(" ")[1].equals(name)) {
                return i;
            }
        }
        return -1;
    }

    /** Terms 2: "Who has no WAY to fly on by is LOST": each sort without any WAY, a split and an odd with one. */
    static void t2NoWay() {
        flown("start a;", 5, 1).geeseAre(5, 0, 0, 0, 5, 0);
        flown("start a;join j;way a to j in 1;", 5, 2).geeseAre(5, 0, 0, 0, 5, 0);
        flown("start a;split s;way a to s in 1;", 5, 2).geeseAre(5, 0, 0, 1, 4, 0);
        flown("start a;split s;way a to s in 1;", 1, 2).geeseAre(1, 0, 0, 1, 0, 0);
        flown("start a;split s;dusk d;way a to s in 1;way s to d in 1;", 5, 2).geeseAre(5, 0, 2, 1, 2, 0);
        flown("start a;odd o;way a to o in 1;", 5, 2).geeseAre(5, 0, 0, 0, 5, 0);
        flown("start a;odd o;way a to o in 1;", 6, 2).geeseAre(6, 0, 0, 0, 6, 0);
        flown("start a;odd o;dusk d;way a to o in 1;way o to d in 1;", 5, 2).geeseAre(5, 0, 5, 0, 0, 0);
        flown("start a;odd o;dusk d;way a to o in 1;way o to d in 1;", 6, 2).geeseAre(6, 0, 0, 0, 6, 0);
        flown("start a;dusk d;way a to d in 1;", 5, 2).geeseAre(5, 0, 0, 5, 0, 0);
        flown("start a;pond p 2;way a to p in 1;", 5, 2).geeseAre(5, 0, 0, 3, 2, 0);
        flown("start a;pond p 2;way a to p in 1;", 5, 9).geeseAre(5, 0, 0, 1, 4, 0);
        flown("start a;pond p 6;way a to p in 1;", 5, 9).geeseAre(5, 0, 0, 5, 0, 0);
        flown("start a;fox f 2;way a to f in 1;", 5, 2).geeseAre(5, 0, 0, 0, 3, 2);
        flown("start a;fox f 5;way a to f in 1;", 5, 2).geeseAre(5, 0, 0, 0, 0, 5);
        flown("start a;bread k 2;way a to k in 1;", 5, 2).geeseAre(5, 2, 0, 0, 7, 0);
        flown("start a;wind w 3;way a to w in 1;", 5, 2).geeseAre(5, 0, 0, 0, 5, 0);
        flown("start a;wind w 3;way a to w in 1;", 6, 2).geeseAre(6, 0, 0, 0, 6, 0);
    }

    /**
     * Terms 2: "what is more than 999,999 that set out together on one WAY is LOST": 999,999 set out, of one more that one is lost. Nine
     * flocks are fed in a ring of nine breads for some 900 beats; gusts, each when the flock of flocks is on the way that it is on,
     * bring them together; some more are begun so that just so many set out at tower 1.
     */
    static void t2MoreThan999999Together() {
        for (int more = 0; more <= 1; more++) {
            Run x = fedRing();
            int way = together(x);
            // Two ways ahead of tower 1 there will be two breads' 99 more when it sets out from there.
            int steps = (8 - way + 9) % 9;
            x.beats(steps);
            x.is(x.way(8, 3), x.geese(0) + x.geese(1));
            int wanted = 999999 + more - 2 * 99 - x.way(8, 3);
            Check.due("some are wanted: " + wanted, wanted > 0 && wanted < 30 * 999, true);
            for (int left = wanted; left > 0; left -= 999) {
                x.begin(0, Math.min(999, left));
            }
            x.is(x.beats(1) <= 1000, true);
            x.is(x.geese(4), 0);
            x.beats(1);
            x.is(x.geese(0) + x.geese(1), 999999 + more);
            x.is(x.way(1, 3), 999999);
            x.is(x.flock(1, 1), 999999);
            x.is(x.geese(2), 999999);
            x.is(x.geese(4), more);
            x.beats(1);
            x.is(x.way(2, 3), 999999);
            x.is(x.geese(4), more + 99);
        }
    }

    private static Run fedRing() {
        StringBuilder text = new StringBuilder("start a;");
        for (int i = 1; i <= 9; i++) {
            text.append("bread ").append((char) ('a' + i)).append(" 99;");
        }
        text.append("way a to b in 1;");
        for (int i = 1; i <= 9; i++) {
            text.append("way ").append((char) ('a' + i)).append(" to ").append((char) ('a' + i % 9 + 1)).append(" in 1;");
        }
        Run x = Run.on(text.toString());
        for (int flock = 0; flock < 9; flock++) {
            for (int i = 1; i <= 20; i++) {
                x.is(x.begin(0, 999), 999 * i);
            }
            x.beats(1);
        }
        for (int i = 0; i < 14; i++) {
            x.beats(60);
        }
        x.beats(30);
        for (int way = 1; way <= 9; way++) {
            Check.due("a flock on way " + way, x.way(way, 3) > 0, true);
        }
        return x;
    }

    /** Brings nine flocks together: the way that they are on then. */
    private static int together(Run x) {
        int way = 1;
        int seed = 0;
        for (int merged = 1; merged < 9;) {
            seed = (137 * seed + 71) % 1000;
            int blown = seed % 10;
            if (blown > 0) {
                int steps = (blown - way + 9) % 9;
                x.beats(steps);
                way = blown;
            }
            x.is(x.gust(), blown);
            if (blown > 0) {
                // Those behind come up.
                x.beats(1);
                merged++;
            }
        }
        x.is(x.way(way, 3), x.geese(2));
        return way;
    }

    /** Terms 2: "a FLOCK of none is none": behind a fox that took all, a wind that left none, an odd's and a split's other way. */
    static void t2FlockOfNone() {
        Run x = flown("start a;fox f 5;bread k 9;dusk d;way a to f in 1;way f to k in 1;way k to d in 1;", 5, 9);
        x.geeseAre(5, 0, 0, 0, 0, 5);
        x.is(x.tower(2, 3), 0);
        Run y = flown("start a;wind w 6;bread k 9;way a to w in 1;way w to k in 1;", 5, 9);
        y.geeseAre(5, 0, 0, 0, 5, 0);
        y.is(y.tower(2, 3), 0);
        Run z = flown("start a;odd o;bread k 9;dusk d;way a to o in 1;way o to k in 1;way o to d in 1;", 6, 9);
        z.geeseAre(6, 0, 0, 6, 0, 0);
        z.is(z.tower(2, 3), 0);
        Run s = flown("start a;split s;bread k 9;dusk d;way a to s in 1;way s to k in 1;way s to d in 1;", 1, 9);
        s.geeseAre(1, 0, 0, 1, 0, 0);
        s.is(s.tower(2, 3), 0);
        Run p = flown("start a;pond p 6;bread k 9;way a to p in 1;way p to k in 1;", 5, 9);
        p.geeseAre(5, 0, 0, 5, 0, 0);
        p.is(p.tower(2, 3), 0);
    }

    /** Terms 2: "In earnest there is a SEED (draw, at first)": 0 without, up to 999. */
    static void t2SeedAtFirst() {
        for (int draw : new int[] {0, 1, 999}) {
            Run x = Run.on("join j;way j to j in 1;draw " + draw + ";");
            x.is(x.about(5), draw);
            x.begin(0, 1);
            x.beats(5);
            x.is(x.about(5), draw);
        }
        Run y = Run.on("join j;way j to j in 1;");
        y.is(y.about(5), 0);
    }

    /** Terms 2: "the SEED becomes its 137-fold and 71 more, modulo 1,000": from each SEED. */
    static void t2SeedOfAGust() {
        for (int draw = 0; draw <= 999; draw++) {
            Run x = Run.on("join j;way j to j in 1;draw " + draw + ";");
            x.is(x.gust(), 0);
            x.is(x.about(5), (137 * draw + 71) % 1000);
        }
        // By hand: 0, 71, 9798 - 9000 = 798, 109397 - 109000 = 397, 54460 - 54000 = 460.
        Run x = Run.on("join j;way j to j in 1;");
        for (int seed : new int[] {71, 798, 397, 460}) {
            x.gust();
            x.is(x.about(5), seed);
        }
    }

    /** Terms 2: "on the WAY of its rest by how many there are": of one WAY, of sixteen. */
    static void t2WayOfAGust() {
        // The seeds are 71, 798, 397, 460, 91, 538, 777, 520, 311, 678.
        int[] seeds = {71, 798, 397, 460, 91, 538, 777, 520, 311, 678};
        for (int ways = 1; ways <= 16; ways++) {
            StringBuilder text = new StringBuilder();
            for (int i = 0; i < 8; i++) {
                text.append("odd ").append((char) ('a' + i)).append(";");
            }
            for (int i = 0; i < ways; i++) {
                text.append("way ").append((char) ('a' + i / 2)).append(" to a in 1;");
            }
            Run x = Run.on(text.toString());
            for (int seed : seeds) {
                x.is(x.gust(), seed % ways);
                x.is(x.about(5), seed);
            }
        }
    }

    /** Terms 2: "all geese are one BEAT farther (12 at most)": of 1 .. 12 left; on other ways none are. */
    static void t2FartherBy12AtMost() {
        Run x = Run.on("start a;dusk d;way a to d in 9;");
        x.begin(0, 5);
        x.beats(1);
        for (int left = 9; left < 12; left++) {
            x.is(x.flock(0, left), 5);
            x.is(x.gust(), 0);
            x.is(x.flock(0, left), 0);
            x.is(x.flock(0, left + 1), 5);
        }
        x.is(x.gust(), 0);
        x.is(x.flock(0, 12), 5);
        x.is(x.way(0, 3), 5);
        x.beats(1);
        x.is(x.flock(0, 11), 5);
        x.begin(0, 3);
        x.beats(2);
        x.is(x.flock(0, 9), 5);
        x.is(x.flock(0, 8), 3);
        x.gust();
        x.gust();
        x.gust();
        x.is(x.flock(0, 12), 5);
        x.is(x.flock(0, 11), 3);
        // Both are at most 12 beats far: together from now on.
        x.gust();
        x.is(x.flock(0, 12), 8);
        x.is(x.flock(0, 11), 0);
        x.beats(11);
        x.is(x.flock(0, 1), 8);
        x.gust();
        x.is(x.flock(0, 2), 8);
        x.beats(2);
        x.is(x.tower(1, 2), 8);
        x.is(x.tower(1, 3), 1);
    }

    /** Terms 2: a GUST is on one WAY alone, and on those that are on it alone. */
    static void t2GustOnOneWayAlone() {
        Run x = Run.on("start a;start b;dusk d;way a to d in 5;way b to d in 5;");
        x.begin(0, 3);
        x.beats(1);
        x.begin(0, 4);
        x.begin(1, 5);
        x.beats(1);
        x.begin(0, 6);
        // 71 is odd: way 1.
        x.is(x.gust(), 1);
        x.is(x.flock(0, 4), 3);
        x.is(x.flock(0, 5), 4);
        x.is(x.flock(1, 6), 5);
        x.is(x.tower(0, 2), 6);
        x.is(x.about(4), 2);
        x.geeseAre(18, 0, 12, 6, 0, 0);
    }

    /** Terms 2: "UNDO takes back the latest ACT that was not", one by one, to the first. */
    static void t2UndoOneByOne() {
        Run x = Run.on("start a;dusk d;way a to d in 2;");
        x.begin(0, 1);
        x.beats(1);
        x.gust();
        x.is(x.undo(), true);
        x.is(x.about(5), 0);
        x.is(x.flock(0, 2), 1);
        x.is(x.undo(), true);
        x.is(x.about(4), 0);
        x.is(x.tower(0, 2), 1);
        x.is(x.tower(0, 3), 0);
        x.is(x.undo(), true);
        x.geeseAre(0, 0, 0, 0, 0, 0);
        x.is(x.undo(), false);
        x.is(x.about(6), 0);
        x.is(x.about(7), 3);
    }

    /** Terms 2: "REDO does that again which was taken back last", one by one, to the last. */
    static void t2RedoOneByOne() {
        Run x = Run.on("start a;dusk d;way a to d in 2;");
        x.begin(0, 1);
        x.beats(1);
        x.gust();
        x.undo();
        x.undo();
        x.undo();
        x.is(x.redo(), true);
        x.is(x.tower(0, 2), 1);
        x.is(x.about(4), 0);
        x.is(x.redo(), true);
        x.is(x.flock(0, 2), 1);
        x.is(x.about(5), 0);
        x.is(x.redo(), true);
        x.is(x.flock(0, 3), 1);
        x.is(x.about(5), 71);
        x.is(x.redo(), false);
        x.is(x.about(6), 3);
        x.is(x.about(7), 0);
    }

    /** Terms 2: "(till another ACT)": each of the three ends it; what is none does not. */
    static void t2RedoTillAnotherAct() {
        Run.Deed[] acts = {x -> x.begin(0, 1), x -> x.beats(0), x -> x.beats(1), x -> x.gust()};
        for (Run.Deed act : acts) {
            Run x = Run.on("start a;dusk d;way a to d in 2;");
            x.begin(0, 2);
            x.begin(0, 3);
            x.undo();
            x.is(x.about(7), 1);
            act.on(x);
            x.is(x.about(6), 2);
            x.is(x.about(7), 0);
            x.is(x.redo(), false);
            x.is(x.undo(), true);
            x.is(x.tower(0, 2), 2);
        }
        Run.Deed[] none = {x -> x.begin(0, 0), x -> x.begin(1, 1), x -> x.beats(61), x -> x.beats(-1), x -> x.row(0, 5), x -> x.reckon(1, 9),
            x -> x.pair(1, 2), x -> x.chain(), x -> x.hush(), x -> x.sight(1, 1, 1), x -> x.untell(0), x -> x.later(1), x -> x.begun(1, 1),
            x -> x.image(0), x -> x.back(0), x -> x.still(), x -> x.end(0), x -> x.feed(0, 0, 0, 0, 0), x -> x.loss(0, 1, 1, 5)};
        for (Run.Deed deed : none) {
            Run x = Run.on("start a;dusk d;way a to d in 2;");
            x.begin(0, 2);
            x.begin(0, 3);
            x.undo();
            deed.on(x);
            x.is(x.about(6), 1);
            x.is(x.about(7), 1);
            x.is(x.redo(), true);
            x.is(x.tower(0, 2), 5);
        }
    }

    /** Terms 2: "40 at most are kept, the oldest go": 39, 40, 41, 80 ACTS. */
    static void t2FortyAreKept() {
        for (int acts : new int[] {1, 39, 40, 41, 42, 80, 81, 83}) {
            Run x = Run.on("start a;");
            for (int i = 1; i <= acts; i++) {
                x.is(x.begin(0, i), i * (i + 1) / 2);
            }
            int kept = acts < 40 ? acts : 40;
            x.is(x.about(6), kept);
            for (int i = 0; i < kept; i++) {
                x.is(x.undo(), true);
                int left = acts - i - 1;
                x.is(x.tower(0, 2), left * (left + 1) / 2);
            }
            x.is(x.undo(), false);
            x.is(x.about(6), 0);
            x.is(x.about(7), kept);
            for (int i = acts - kept + 1; i <= acts; i++) {
                x.is(x.redo(), true);
                x.is(x.tower(0, 2), i * (i + 1) / 2);
            }
            x.is(x.redo(), false);
        }
    }

    /** The same sentence: those taken back are kept among the 40; behind another ACT they are none. */
    static void t2FortyAreKeptWithThoseTakenBack() {
        Run x = Run.on("start a;");
        for (int i = 0; i < 40; i++) {
            x.begin(0, 1);
        }
        for (int i = 0; i < 25; i++) {
            x.undo();
        }
        x.is(x.about(6), 15);
        x.is(x.about(7), 25);
        x.is(x.begin(0, 100), 115);
        x.is(x.about(6), 16);
        x.is(x.about(7), 0);
        for (int i = 0; i < 30; i++) {
            x.begin(0, 1);
        }
        x.is(x.about(6), 40);
        for (int i = 0; i < 40; i++) {
            x.is(x.undo(), true);
        }
        x.is(x.undo(), false);
        // 15 and 100 and 30, of 46 ACTS the oldest six are there for good.
        x.is(x.tower(0, 2), 7 - 1);
    }

    // ==== Promises 6 to 14 ====

    /** Promise 6: "Of a TOWER what 0 .. 3 .. NONE if there is none such, or for another what": no TOWER, one, ten. */
    static void p06Tower() {
        Run none = new Run();
        for (int what = -1; what <= 4; what++) {
            none.is(none.tower(0, what), -1);
        }
        Run x = Run.on("start a;join b;split c;odd d;dusk e;pond f 1;fox g 2;bread h 98;wind i 99;join j;");
        int[] sorts = {0, 1, 2, 3, 4, 5, 6, 7, 8, 1};
        int[] n = {0, 0, 0, 0, 0, 1, 2, 98, 99, 0};
        for (int tower = 0; tower < 10; tower++) {
            x.is(x.tower(tower, 0), sorts[tower]);
            x.is(x.tower(tower, 1), n[tower]);
            x.is(x.tower(tower, 2), 0);
            x.is(x.tower(tower, 3), 0);
            x.is(x.tower(tower, 4), -1);
            x.is(x.tower(tower, -1), -1);
        }
        for (int what = 0; what <= 3; what++) {
            x.is(x.tower(10, what), -1);
            for (int far : FAR) {
                x.is(x.tower(far, what), -1);
                x.is(x.tower(0, far), -1);
            }
        }
        Run one = Run.on("start a;");
        one.is(one.tower(0, 0), 0);
        one.is(one.tower(1, 0), -1);
    }

    /** Promise 6: "2: how many stay, circle, wait there": at a start, a split, a dusk, a pond; nowhere else. */
    static void p06HowManyAreThere() {
        Run x = Run.on("start a;split s;dusk d;pond p 4;way a to s in 1;way s to d in 1;way s to p in 1;");
        x.begin(0, 7);
        x.is(x.tower(0, 2), 7);
        x.beats(3);
        x.is(x.tower(0, 2), 0);
        x.is(x.tower(1, 2), 1);
        x.is(x.tower(2, 2), 3);
        x.is(x.tower(3, 2), 3);
        x.begin(0, 999);
        x.begin(0, 1);
        x.is(x.tower(0, 2), 1000);
    }

    /** Promise 6: "3: how many FLOCKS came": none, one a BEAT; who waits at a START is one by the next BEAT; a pond's without one is none. */
    static void p06HowManyFlocks() {
        Run x = Run.on("start a;pond p 1;dusk d;way a to p in 1;way p to d in 1;");
        x.begin(0, 3);
        x.is(x.tower(0, 3), 0);
        int[][] came = {{1, 0, 0}, {1, 1, 0}, {1, 1, 1}, {1, 1, 2}, {1, 1, 3}, {1, 1, 3}};
        for (int[] want : came) {
            x.beats(1);
            for (int tower = 0; tower < 3; tower++) {
                x.is(x.tower(tower, 3), want[tower]);
            }
        }
    }

    /** Promise 7: "Of a WAY what 0 .. 3; NONE if there is none such, or for another what": no WAY, one, sixteen. */
    static void p07Way() {
        Run none = Run.on("start a;");
        for (int what = -1; what <= 4; what++) {
            none.is(none.way(0, what), -1);
        }
        StringBuilder text = new StringBuilder();
        for (int i = 0; i < 8; i++) {
            text.append("split ").append((char) ('a' + i)).append(";");
        }
        for (int i = 0; i < 16; i++) {
            text.append("way ").append((char) ('a' + i / 2)).append(" to ").append((char) ('a' + (i * 3) % 8)).append(" in ").append(i % 9 + 1).append(";");
        }
        Run x = Run.on(text.toString());
        for (int way = 0; way < 16; way++) {
            x.is(x.way(way, 0), way / 2);
            x.is(x.way(way, 1), way * 3 % 8);
            x.is(x.way(way, 2), way % 9 + 1);
            x.is(x.way(way, 3), 0);
            x.is(x.way(way, 4), -1);
            x.is(x.way(way, -1), -1);
        }
        for (int what = 0; what <= 3; what++) {
            x.is(x.way(16, what), -1);
            for (int far : FAR) {
                x.is(x.way(far, what), -1);
                x.is(x.way(0, far), -1);
            }
        }
    }

    /** Promise 7: "3: how many are on it": of all BEATS left together, 1 .. 12. */
    static void p07HowManyAreOnIt() {
        Run x = Run.on("start a;dusk d;way a to d in 9;");
        int all = 0;
        for (int i = 1; i <= 9; i++) {
            x.begin(0, i);
            x.beats(1);
            all += i;
            x.is(x.way(0, 3), all);
        }
        // 9 .. 1 beats left, for 9 .. 1 geese.
        x.gust();
        x.gust();
        x.gust();
        x.is(x.way(0, 3), 45);
        x.is(x.flock(0, 12), 9);
        x.beats(4);
        x.is(x.way(0, 3), 44);
        x.beats(7);
        x.is(x.way(0, 3), 9);
        x.beats(1);
        x.is(x.way(0, 3), 0);
        x.is(x.tower(1, 2), 45);
    }

    /** Promise 8: "How many on a WAY have so many BEATS (1 .. 12) left; NONE if one can't be". */
    static void p08Flock() {
        Run x = Run.on("start a;dusk d;way a to d in 9;");
        x.begin(0, 4);
        x.beats(1);
        for (int left = 1; left <= 12; left++) {
            x.is(x.flock(0, left), left == 9 ? 4 : 0);
        }
        x.is(x.flock(0, 0), -1);
        x.is(x.flock(0, 13), -1);
        x.is(x.flock(1, 1), -1);
        for (int far : FAR) {
            x.is(x.flock(0, far), -1);
            x.is(x.flock(far, 9), -1);
        }
        for (int i = 0; i < 3; i++) {
            x.gust();
        }
        x.is(x.flock(0, 12), 4);
        x.is(x.flock(0, 13), -1);
        x.beats(11);
        x.is(x.flock(0, 1), 4);
        x.is(x.flock(0, 0), -1);
        Run none = new Run();
        none.is(none.flock(0, 1), -1);
    }

    /** Promise 9: "Geese what 0 .. 5 .. NONE for another what": none of any; each one accounted for. */
    static void p09Geese() {
        Run x = Run.on("start a;split s;bread k 3;fox f 2;wind w 4;dusk d;way a to s in 1;way s to k in 1;way s to f in 1;way k to d in 1;way f to w in 1;");
        x.geeseAre(0, 0, 0, 0, 0, 0);
        for (int far : new int[] {-1, 6, 7, Integer.MIN_VALUE, Integer.MAX_VALUE}) {
            x.is(x.geese(far), -1);
        }
        x.begin(0, 15);
        x.geeseAre(15, 0, 0, 15, 0, 0);
        x.beats(1);
        x.geeseAre(15, 0, 15, 0, 0, 0);
        x.beats(1);
        x.geeseAre(15, 0, 14, 1, 0, 0);
        x.beats(1);
        // k: 7 and 3 fly on; f: 2 taken, 5 fly on.
        x.geeseAre(15, 3, 15, 1, 0, 2);
        x.beats(1);
        // d: 10 stay; w: 1 lost of 5, 4 have no way.
        x.geeseAre(15, 3, 0, 11, 5, 2);
        for (int far : new int[] {-1, 6}) {
            x.is(x.geese(far), -1);
        }
    }

    /** Promise 10: "A FLOCK is begun (1 .. 999)". */
    static void p10FlockOf1To999() {
        for (int n : new int[] {0, -1, 1000, 1001, Integer.MIN_VALUE, Integer.MAX_VALUE}) {
            Run x = Run.on("start a;");
            x.is(x.begin(0, n), -1);
            x.is(x.tower(0, 2), 0);
            x.is(x.about(6), 0);
        }
        for (int n : new int[] {1, 2, 998, 999}) {
            Run x = Run.on("start a;");
            x.is(x.begin(0, n), n);
            x.is(x.tower(0, 2), n);
            x.is(x.about(6), 1);
        }
    }

    /** Promise 10: "NONE, doing nothing, if one can't be": no START, one, three; STARTS by number, whatever their TOWERS' are. */
    static void p10AtAStart() {
        Run none = Run.on("join j;dusk d;");
        none.is(none.begin(0, 1), -1);
        Run x = Run.on("join j;start a;dusk d;start b;odd o;start c;");
        int[] towers = {1, 3, 5};
        for (int start = 0; start < 3; start++) {
            x.is(x.begin(start, 5 + start), 5 + start);
            x.is(x.tower(towers[start], 2), 5 + start);
        }
        x.is(x.begin(3, 1), -1);
        for (int far : FAR) {
            x.is(x.begin(far, 1), -1);
        }
        x.is(x.geese(0), 18);
        x.is(x.about(6), 3);
        Run one = Run.on("start a;join j;");
        one.is(one.begin(0, 1), 1);
        one.is(one.begin(1, 1), -1);
    }

    /** Promise 10: "how many wait there then": with those that waited already; not with those that flew on. */
    static void p10HowManyWait() {
        Run x = Run.on("start a;dusk d;way a to d in 1;");
        x.is(x.begin(0, 999), 999);
        x.is(x.begin(0, 1), 1000);
        x.beats(1);
        x.is(x.begin(0, 3), 3);
        x.undo();
        x.is(x.begin(0, 4), 4);
    }

    /** Promise 10: "or there would be more than 999,999": as many as can wait within 512 calls are far below. */
    static void p10AsManyAsCallsCanBegin() {
        Run x = Run.on("start a;");
        int waiting = 0;
        while (x.calls() < 505) {
            waiting += 999;
            x.is(x.begin(0, 999), waiting);
        }
        x.is(x.tower(0, 2), waiting);
        x.is(x.geese(0), waiting);
        x.is(x.beats(1), 1);
        x.is(x.geese(4), waiting);
    }

    /**
     * Promise 10: "NONE, doing nothing, .. or there would be more than 999,999": 999,999 wait, one more can't. It takes more calls than the
     * 512 that are promised: so this object is no Run.
     */
    static void p10MoreThan999999() {
        GeeseSums x = Check.on("start a;start b;dusk d;way a to d in 1;");
        for (int i = 1; i <= 1000; i++) {
            Check.due("begin " + i, x.begin(0, 999), 999 * i);
        }
        Check.due("999,000 and 998", x.begin(0, 998), 999998);
        Check.due("999,998 and 2", x.begin(0, 2), -1);
        Check.due("999,998 and 999", x.begin(0, 999), -1);
        Check.due("nothing was done", x.tower(0, 2), 999998);
        Check.due("999,998 and 1", x.begin(0, 1), 999999);
        Check.due("999,999 and 1", x.begin(0, 1), -1);
        Check.due("the last one undone", x.undo(), true);
        Check.due("999,998 and 2 again", x.begin(0, 2), -1);
        Check.due("a refused one is no ACT", x.about(6), 39);
        Check.due("what was undone can be redone", x.about(7), 1);
        Check.due("the last one redone", x.redo(), true);
        Check.due("999,999 again", x.tower(0, 2), 999999);
        Check.due("at another START", x.begin(1, 999), 999);
        Check.due("all that wait", x.geese(3), 1000998);
        x.beats(2);
        Check.due("all of them set out together", x.tower(2, 2), 999999);
        Check.due("none of them is lost", x.geese(4), 999);
    }

    /** Promise 11: "So many BEATS (0 .. 60) go by: how many did": 0 and 60 are taken, -1 and 61 not. */
    static void p11Beats0To60() {
        Run x = Run.on("start a;dusk d;way a to d in 1;");
        x.begin(0, 3);
        for (int n : new int[] {-1, 61, 62, 1000, Integer.MIN_VALUE, Integer.MAX_VALUE}) {
            x.is(x.beats(n), -1);
        }
        x.is(x.about(4), 0);
        x.is(x.about(6), 1);
        x.is(x.tower(0, 2), 3);
        x.is(x.beats(0), 0);
        x.is(x.tower(0, 2), 3);
        x.is(x.beats(1), 1);
        x.is(x.flock(0, 1), 3);
        x.is(x.beats(0), 1);
        x.is(x.flock(0, 1), 3);
        x.is(x.beats(60), 61);
        x.is(x.tower(1, 2), 3);
    }

    /** Promise 11: "how many did; NONE, doing nothing, .. if there would be more than 1,000". */
    static void p11Beats1000InAll() {
        Run x = Run.on("start a;dusk d;way a to d in 1;");
        for (int i = 1; i <= 16; i++) {
            x.is(x.beats(60), 60 * i);
        }
        x.begin(0, 3);
        for (int n = 41; n <= 60; n++) {
            x.is(x.beats(n), -1);
        }
        x.is(x.about(4), 960);
        x.is(x.tower(0, 2), 3);
        x.is(x.beats(39), 999);
        x.is(x.beats(2), -1);
        x.is(x.beats(1), 1000);
        x.is(x.beats(1), -1);
        x.is(x.beats(60), -1);
        x.is(x.beats(0), 1000);
        x.is(x.about(4), 1000);
        // Taken back, they can go by again; so behind what was kept in a box.
        x.undo();
        x.undo();
        x.is(x.about(4), 999);
        x.is(x.image(0), 999);
        x.is(x.beats(1), 1000);
        x.is(x.beats(1), -1);
        x.is(x.back(0), 999);
        x.is(x.beats(2), -1);
        x.is(x.beats(1), 1000);
    }

    /** Promise 11: 41 .. are taken at 959, not at 960. */
    static void p11BeatsJustEnough() {
        Run x = Run.on("");
        for (int i = 0; i < 15; i++) {
            x.beats(60);
        }
        x.is(x.beats(40), 940);
        x.is(x.beats(60), 1000);
        x.undo();
        x.is(x.beats(1), 941);
        x.is(x.beats(60), -1);
        x.is(x.beats(59), 1000);
    }

    /** Promise 11: "(An ACT.)", beats(0) too. */
    static void p11BeatsAreAnAct() {
        Run x = Run.on("start a;");
        x.beats(0);
        x.is(x.about(6), 1);
        x.beats(60);
        x.is(x.about(6), 2);
        x.beats(61);
        x.is(x.about(6), 2);
        x.is(x.undo(), true);
        x.is(x.about(4), 0);
        x.is(x.undo(), true);
        x.is(x.undo(), false);
    }

    /** Promise 12: "A GUST: the WAY; NONE, doing nothing, without WAYS. (An ACT.)" */
    static void p12Gust() {
        Run x = Run.on("start a;draw 7;");
        x.begin(0, 1);
        x.begin(0, 1);
        x.undo();
        x.is(x.gust(), -1);
        x.is(x.about(5), 7);
        x.is(x.about(6), 1);
        x.is(x.about(7), 1);
        Run none = new Run();
        none.is(none.gust(), -1);
        none.is(none.about(6), 0);
        // With one WAY, though nobody is on it: 7 * 137 + 71 = 1030.
        Run y = Run.on("join j;way j to j in 1;draw 7;");
        y.is(y.gust(), 0);
        y.is(y.about(5), 30);
        y.is(y.about(6), 1);
        y.is(y.undo(), true);
        y.is(y.about(5), 7);
    }

    /** Promise 13: "UNDO: true; false if there is none": of a new object, behind net(), back(), the last one. */
    static void p13Undo() {
        Run x = new Run();
        x.is(x.undo(), false);
        x.is(x.beats(1), 1);
        x.is(x.undo(), true);
        x.is(x.undo(), false);
        x.is(x.about(4), 0);
        x.beats(5);
        x.net();
        x.is(x.undo(), false);
        x.beats(5);
        x.image(0);
        x.beats(5);
        x.back(0);
        x.is(x.undo(), false);
        x.is(x.about(4), 5);
    }

    /** Promise 14: "REDO: true; false if there is none": of a new object, ahead of any UNDO, behind net(), back(), the last one. */
    static void p14Redo() {
        Run x = new Run();
        x.is(x.redo(), false);
        x.beats(1);
        x.is(x.redo(), false);
        x.undo();
        x.is(x.redo(), true);
        x.is(x.redo(), false);
        x.is(x.about(4), 1);
        x.undo();
        x.net();
        x.is(x.redo(), false);
        x.image(0);
        x.beats(5);
        x.undo();
        x.back(0);
        x.is(x.redo(), false);
        x.is(x.about(4), 0);
    }

    // ==== Promises 38 to 40 ====

    /** Promise 38: "kept in a BOX 0 .. 2: how many BEATS there were; NONE if there is none such". */
    static void p38Image() {
        Run x = new Run();
        for (int box : new int[] {-1, 3, 4, Integer.MIN_VALUE, Integer.MAX_VALUE}) {
            x.is(x.image(box), -1);
        }
        for (int box = 0; box < 3; box++) {
            x.is(x.back(box), -1);
        }
        for (int box = 0; box < 3; box++) {
            x.is(x.image(box), box * 60);
            x.beats(60);
        }
        for (int box = 0; box < 3; box++) {
            x.is(x.back(box), box * 60);
            x.is(x.about(4), box * 60);
        }
        x.is(x.beats(60), 180);
        x.is(x.image(1), 180);
        x.is(x.back(0), 0);
        x.is(x.back(1), 180);
        Run full = Run.on("");
        for (int i = 0; i < 20; i++) {
            full.beats(50);
        }
        full.is(full.image(2), 1000);
    }

    /** Promise 38: "The sky, the SEED are kept": what is on ways, at towers, how many FLOCKS came, all geese, the SEED, the BEATS. */
    static void p38WhatIsKept() {
        Run x = Run.on("start a;split s;fox f 1;bread k 2;way a to s in 3;way s to f in 1;way s to k in 1;draw 9;");
        x.begin(0, 7);
        x.beats(4);
        x.begin(0, 6);
        x.beats(1);
        x.gust();
        x.begin(0, 4);
        String before = sky(x);
        x.is(x.image(0), 5);
        x.beats(60);
        x.gust();
        x.begin(0, 9);
        x.is(x.back(0), 5);
        Check.due("as it was kept", sky(x).equals(before), true);
        // 9 * 137 + 71 = 1304; by three ways: way 1. Its 3 were at f by then: 1 taken, 2 lost; at k 3 were lost with 2 more.
        x.is(x.about(5), 304);
        x.geeseAre(17, 2, 6, 5, 7, 1);
        x.is(x.tower(1, 2), 1);
        x.is(x.tower(0, 2), 4);
        x.is(x.flock(0, 3), 6);
        x.is(x.tower(0, 3), 2);
    }

    private static String sky(Run x) {
        StringBuilder all = new StringBuilder();
        for (int tower = 0; tower < 4; tower++) {
            all.append(x.tower(tower, 2)).append(" ").append(x.tower(tower, 3)).append(" ");
        }
        for (int way = 0; way < 3; way++) {
            for (int left = 1; left <= 12; left++) {
                all.append(x.flock(way, left)).append(" ");
            }
        }
        for (int what = 0; what < 6; what++) {
            all.append(x.geese(what)).append(" ");
        }
        return all.append(x.about(4)).append(" ").append(x.about(5)).toString();
    }

    /** Promise 38: of the ROW, PAIRS, SIGHTS, the TIME, what lies there nothing is kept; an image is no ACT. */
    static void p38NothingElseIsKept() {
        Run x = Run.filled();
        x.is(x.about(6), 4);
        x.is(x.about(7), 1);
        x.is(x.image(0), 2);
        x.is(x.about(6), 4);
        x.is(x.about(7), 1);
        x.row(0, 3);
        x.pair(9, 7);
        x.sight(3, 2, 1);
        x.later(5);
        x.begun(1, -1);
        x.is(x.back(0), 2);
        x.is(x.row(0, 3), 3);
        x.is(x.about(8), 2);
        x.is(x.about(9), 3);
        x.is(x.about(10), 9);
        x.is(x.about(13), 2);
    }

    /** Promise 39: "NONE, doing nothing, if nothing was" kept there: in no BOX, in another one, in none such. */
    static void p39BackToNothing() {
        Run x = Run.on("start a;");
        x.begin(0, 3);
        x.beats(0);
        x.undo();
        for (int box : new int[] {-1, 0, 1, 2, 3, Integer.MIN_VALUE, Integer.MAX_VALUE}) {
            x.is(x.back(box), -1);
        }
        x.image(1);
        for (int box : new int[] {-1, 0, 2, 3}) {
            x.is(x.back(box), -1);
        }
        x.is(x.tower(0, 2), 3);
        x.is(x.about(6), 1);
        x.is(x.about(7), 1);
        x.is(x.back(1), 0);
    }

    /** Promise 39: "All is as it was kept (no ACTS are kept then): how many BEATS there were": as often as one likes. */
    static void p39Back() {
        Run x = Run.on("start a;dusk d;way a to d in 2;");
        x.begin(0, 3);
        x.beats(1);
        x.image(2);
        for (int i = 0; i < 3; i++) {
            x.beats(2 + i);
            x.begin(0, 1);
            x.undo();
            x.is(x.about(6), i == 0 ? 3 : 1);
            x.is(x.about(7), 1);
            x.is(x.back(2), 1);
            x.is(x.about(6), 0);
            x.is(x.about(7), 0);
            x.is(x.undo(), false);
            x.is(x.redo(), false);
            x.is(x.flock(0, 2), 3);
            x.is(x.tower(1, 2), 0);
        }
        // An ACT behind it is taken back to what was kept.
        x.begin(0, 5);
        x.is(x.undo(), true);
        x.is(x.tower(0, 2), 0);
        x.is(x.undo(), false);
    }

    /** Promise 40: "What 0 .. 13 .. NONE for another what": of each as many as there can be. */
    static void p40About() {
        Run x = new Run();
        for (int what : new int[] {-1, 14, 15, Integer.MIN_VALUE, Integer.MAX_VALUE}) {
            x.is(x.about(what), -1);
        }
        StringBuilder text = new StringBuilder("start a;start b;start c;dusk d;");
        for (int i = 0; i < 6; i++) {
            text.append("split ").append((char) ('e' + i)).append(";");
        }
        for (int i = 0; i < 12; i++) {
            text.append("way ").append((char) ('e' + i / 2)).append(" to d in 1;");
        }
        text.append("way a to d in 1;way b to d in 1;way c to d in 1;");
        for (int i = 0; i < 6; i++) {
            text.append("claim ").append((char) ('a' + i)).append(" at d a").append("+1".repeat(14)).append(";");
        }
        text.append("draw 999;");
        x.type(text.toString());
        x.is(x.net(), 10);
        for (int i = 0; i < 80; i++) {
            x.beats(i < 40 ? 10 : 15);
        }
        for (int i = 0; i < 20; i++) {
            x.undo();
        }
        for (int i = 0; i < 100; i++) {
            x.later(1000);
        }
        for (int i = 0; i < 20; i++) {
            x.sight(3, 1, 0);
        }
        x.pair(0, 128);
        for (int i = 0; i < 3; i++) {
            x.pair(1, 191);
        }
        x.is(x.chain(), -1);
        x.hush();
        x.pair(0, 128);
        x.pair(0, 128);
        x.pair(0, 128);
        x.pair(0, 128);
        x.is(x.chain(), 8);
        for (int i = 0; i < 80; i++) {
            x.feed(0x20202020, 0x20202020, 0x20202020, 0x20202020, 0x20202020);
        }
        int[] want = {10, 3, 15, 6, 700, 999, 20, 20, 4, 20, 100000, 1600, 90, 8};
        for (int what = 0; what < want.length; what++) {
            x.is(x.about(what), want[what]);
        }
        for (int what : new int[] {-1, 14}) {
            x.is(x.about(what), -1);
        }
    }
}
