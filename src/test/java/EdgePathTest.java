/**
 * The boundary cases that the document names: "Terms" 3 as far as PATHS and CHAINS go (t3..), promises 25 to 32 (p25 .. p32). One test a
 * sentence; its remark tells the sentence.
 */
public final class EdgePathTest {
    private static final int[] FAR = {Integer.MIN_VALUE, -1000, -1, 1001, 1000000, Integer.MAX_VALUE};

    public static void main(String[] args) throws ReflectiveOperationException {
        Check.edges(EdgePathTest.class);
        Check.close("EdgePathTest");
    }

    /** A ring of ten joins, nine ways of 6 BEATS and the last of so many. */
    private static Run ringOfTen(int last) {
        StringBuilder text = new StringBuilder();
        for (int i = 0; i < 10; i++) {
            text.append("join ").append((char) ('b' + i)).append(";");
        }
        for (int i = 0; i < 10; i++) {
            text.append("way ").append((char) ('b' + i)).append(" to ").append((char) ('b' + (i + 1) % 10)).append(" in ").append(i < 9 ? 6 : last).append(";");
        }
        return Run.on(text.toString());
    }

    // ==== Terms 3: PATHS ====

    /** Terms 3: PATHS "of so many BEATS in all (0 .. 60 ..)": of 0 the one without a WAY, to itself alone. */
    static void t3PathsOfNoBeats() {
        Run x = Run.on("start a;join b;dusk d;way a to b in 1;way b to b in 1;");
        for (int from = 0; from < 3; from++) {
            for (int to = 0; to < 3; to++) {
                x.is(x.paths(from, to, 0), from == to ? 1 : 0);
            }
        }
        x.is(x.paths(0, 1, 1), 1);
        x.is(x.paths(0, 0, 1), 0);
        x.is(x.paths(1, 1, 1), 1);
        x.is(x.paths(2, 2, 1), 0);
    }

    /** Terms 3: the same of 59, 60 (and 61: none such) BEATS. */
    static void t3PathsOf60Beats() {
        Run x = Run.on("join a;join b;way a to a in 1;way b to b in 6;");
        x.is(x.paths(0, 0, 59), 1);
        x.is(x.paths(0, 0, 60), 1);
        x.is(x.paths(0, 0, 61), -1);
        x.is(x.paths(1, 1, 59), 0);
        x.is(x.paths(1, 1, 60), 1);
        x.is(x.paths(1, 1, 54), 1);
        x.is(x.paths(0, 1, 60), 0);
        Run of60 = ringOfTen(6);
        of60.is(of60.paths(0, 0, 60), 1);
        of60.is(of60.paths(9, 9, 60), 1);
        of60.is(of60.paths(0, 9, 54), 1);
        Run of61 = ringOfTen(7);
        of61.is(of61.paths(0, 0, 60), 0);
        of61.is(of61.paths(0, 9, 54), 1);
        of61.is(of61.paths(9, 8, 55), 1);
    }

    /** Terms 3: PATHS "(.. 1,000,000,000, if there are more)": 999,998,601 are told, 1,000,000,000 too, 1,000,004,769 are more. */
    static void t3MorePathsThanABillion() {
        Run two = Run.on("split s;way s to s in 1;way s to s in 1;");
        for (int beats = 0; beats <= 60; beats++) {
            two.is(two.paths(0, 0, beats), beats < 30 ? 1 << beats : 1000000000);
        }
        // Ten rounds of 4 beats each from s: in 4k beats 10 to the k.
        Run ten = Run.on("split s;split p;split a;split b;split c;way s to p in 1;way s to p in 1;way p to a in 1;way p to b in 1;way a to s in 2;"
            + "way a to s in 2;way b to s in 2;way b to c in 1;way c to s in 1;way c to s in 1;");
        int power = 1;
        for (int k = 0; k <= 15; k++) {
            ten.is(ten.paths(0, 0, 4 * k), power);
            if (k < 15) {
                ten.is(ten.paths(0, 0, 4 * k + 2), 0);
            }
            power = k < 9 ? power * 10 : power;
        }
        Run near = Run.on("split a;split b;split c;split d;way a to b in 3;way a to b in 3;way b to b in 3;way b to d in 1;way c to b in 1;way c to c in 1;"
            + "way d to c in 2;way d to a in 4;");
        near.is(near.paths(3, 1, 56), 999998601);
        Run more = Run.on("split a;split b;split c;split d;way a to d in 1;way a to c in 3;way b to b in 4;way b to c in 1;way c to a in 2;way c to a in 3;"
            + "way d to d in 1;way d to c in 2;");
        more.is(more.paths(1, 2, 59), 1000000000);
    }

    /** Terms 3: PATHS are "rows of WAYS": two ways of the same TOWERS and BEATS are two. */
    static void t3PathsAreRowsOfWays() {
        Run x = Run.on("split s;odd o;dusk d;way s to o in 2;way s to o in 2;way o to d in 3;way o to d in 3;");
        x.is(x.paths(0, 1, 2), 2);
        x.is(x.paths(0, 2, 5), 4);
        x.is(x.paths(1, 2, 3), 2);
        x.is(x.paths(0, 2, 4), 0);
        x.is(x.paths(2, 0, 5), 0);
    }

    /** Terms 3: "RING: TOWERS from which some PATH comes back to them (of more than 0 BEATS)": none, one, all. */
    static void t3RingNoneToAll() {
        Run empty = new Run();
        empty.is(empty.ring(), 0);
        Run none = Run.on("start a;join b;dusk d;way a to b in 1;way b to d in 1;");
        none.is(none.ring(), 0);
        Run one = Run.on("join a;join b;join c;way a to b in 1;way b to b in 9;");
        one.is(one.ring(), 2);
        Run all = ringOfTen(6);
        all.is(all.ring(), 1023);
        Run last = Run.on("dusk a;dusk b;dusk c;dusk e;dusk f;dusk g;dusk h;dusk i;dusk j;join k;way k to k in 1;");
        last.is(last.ring(), 512);
    }

    /** Terms 3: RING: TOWERS that lead to such a one, or lie behind it, are none. */
    static void t3RingNotBeforeNorBehind() {
        Run x = Run.on("start a;split s;join j;dusk d;way a to s in 1;way s to j in 1;way s to d in 1;way j to s in 1;");
        x.is(x.ring(), 6);
        Run y = Run.on("start a;split s;join j;join k;way a to s in 1;way s to s in 1;way s to j in 1;way j to k in 1;way k to k in 1;");
        y.is(y.ring(), 10);
        Run z = Run.on("join a;join b;start c;way c to b in 1;way b to a in 1;way a to c in 1;");
        z.is(z.ring(), 7);
    }

    /** Terms 3: RING names no 60 BEATS: 61 and 90 come back, too; PATHS of so many are not told. */
    static void t3RingOfMoreThan60Beats() {
        Run x = ringOfTen(7);
        x.is(x.ring(), 1023);
        x.is(x.spread(0, 0), 1);
        StringBuilder text = new StringBuilder();
        for (int i = 0; i < 10; i++) {
            text.append("join ").append((char) ('b' + i)).append(";");
        }
        for (int i = 0; i < 10; i++) {
            text.append("way ").append((char) ('b' + i)).append(" to ").append((char) ('b' + (i + 7) % 10)).append(" in 9;");
        }
        Run y = Run.on(text.toString());
        y.is(y.ring(), 1023);
    }

    /** Terms 3: "MEET of two TOWERS at a third one: the fewest BEATS (0 .. 60) of which PATHS lead there from both": 0, 1, 60; not 61. */
    static void t3MeetWithin60Beats() {
        // From s 4, 11 .. 53, 60; from t 6, 15 .. 51, 60.
        Run x = Run.on("split s;split t;dusk d;way s to s in 7;way s to d in 4;way t to t in 9;way t to d in 6;");
        x.is(x.meet(0, 1, 2), 60);
        x.is(x.meet(1, 0, 2), 60);
        x.is(x.meet(0, 0, 2), 4);
        x.is(x.meet(1, 1, 2), 6);
        x.is(x.meet(2, 2, 2), 0);
        x.is(x.meet(0, 0, 0), 0);
        x.is(x.meet(0, 2, 2), -1);
        x.is(x.meet(0, 1, 0), -1);
        // One beat more each: 61.
        Run y = Run.on("split s;split t;dusk d;way s to s in 7;way s to d in 5;way t to t in 9;way t to d in 7;");
        y.is(y.meet(0, 1, 2), -1);
        Run z = Run.on("start a;start b;dusk d;way a to d in 1;way b to d in 1;");
        z.is(z.meet(0, 1, 2), 1);
        Run of60 = ringOfTen(6);
        of60.is(of60.meet(0, 0, 9), 54);
        // From tower 1 to it in 54 at the first, then 114; from it in 0, then 60.
        of60.is(of60.meet(1, 0, 0), -1);
    }

    /** Terms 3: MEET asks for one number of BEATS from both, not for a PATH each. */
    static void t3MeetOfTheSameBeats() {
        Run x = Run.on("start a;start b;dusk d;way a to d in 1;way b to d in 2;");
        x.is(x.meet(0, 1, 2), -1);
        Run y = Run.on("start a;start b;join j;dusk d;way a to d in 3;way b to j in 1;way j to d in 2;");
        y.is(y.meet(0, 1, 3), 3);
        y.is(y.meet(0, 2, 3), -1);
    }

    /** Terms 3: "SPREAD: of how many unlike numbers of BEATS (0 .. 60) PATHS lead from one to another one": 0, 1, 2, 61. */
    static void t3SpreadOf0To60Beats() {
        Run all = Run.on("join j;dusk d;way j to j in 1;");
        all.is(all.spread(0, 0), 61);
        all.is(all.spread(0, 1), 0);
        all.is(all.spread(1, 0), 0);
        all.is(all.spread(1, 1), 1);
        Run of60 = ringOfTen(6);
        of60.is(of60.spread(0, 0), 2);
        of60.is(of60.spread(0, 9), 1);
        of60.is(of60.spread(9, 0), 1);
        Run of61 = ringOfTen(7);
        of61.is(of61.spread(0, 0), 1);
        of61.is(of61.spread(9, 0), 1);
        // Like numbers count once.
        Run like = Run.on("split s;dusk d;way s to d in 2;way s to d in 2;");
        like.is(like.spread(0, 1), 1);
        Run unlike = Run.on("split s;dusk d;way s to d in 2;way s to d in 3;");
        unlike.is(unlike.spread(0, 1), 2);
    }

    // ==== Terms 3: PAIRS, CHAIN ====

    /** Terms 3: "PAIRS, 4 at most". */
    static void t3FourPairsAtMost() {
        Run x = new Run();
        for (int i = 1; i <= 4; i++) {
            x.is(x.about(8), i - 1);
            x.is(x.pair(7, 3), i);
        }
        x.is(x.pair(7, 3), -1);
        x.is(x.pair(0, 0), -1);
        x.is(x.about(8), 4);
        x.is(x.chain(), 1);
        x.is(x.hush(), 4);
        x.is(x.pair(7, 3), 1);
    }

    /** The CHAIN of some PAIRS. */
    private static void chain(int[] pairs, int... want) {
        Run x = new Run();
        for (int i = 0; i < pairs.length; i += 2) {
            x.pair(pairs[i], pairs[i + 1]);
        }
        x.is(x.chain(), want.length);
        x.lie(want);
    }

    private static void noChain(int... pairs) {
        Run x = new Run();
        for (int i = 0; i < pairs.length; i += 2) {
            x.pair(pairs[i], pairs[i + 1]);
        }
        x.is(x.chain(), -1);
        x.lie();
    }

    /** Terms 3: "CHAIN: the fewest towers (8 at most)": none to 8; not 9. */
    static void t3ChainOf8AtMost() {
        for (int length = 0; length <= 8; length++) {
            int[] twice = new int[length];
            java.util.Arrays.fill(twice, 3);
            // Of 3 twice and twice: no other chain makes so much of it.
            chain(new int[] {3, 3 << length}, twice);
        }
        chain(new int[] {999, 3}, 0, 0, 0, 0, 0, 0, 0, 0);
        chain(new int[] {1, 256}, 1, 3, 3, 3, 3, 3, 3, 3);
        noChain(1, 512);
        noChain(1, 511);
        noChain(999, 1);
        chain(new int[] {767, 2}, 0, 0, 0, 0, 0, 0, 0, 0);
        noChain(767, 1);
        noChain(0, 999);
    }

    /** Terms 3: "sorts 0 half (cut)": of 0, 1, 2, 3. */
    static void t3ChainHalf() {
        chain(new int[] {0, 0, 1, 0, 2, 1, 3, 1}, 0);
        chain(new int[] {998, 499, 999, 499}, 0);
    }

    /** Terms 3: "1 one more": of 0, of 999 (what is made on the way may be above 999). */
    static void t3ChainOneMore() {
        chain(new int[] {0, 1, 998, 999}, 1);
        chain(new int[] {999, 500, 998, 499}, 1, 0);
        noChain(999, 0, 0, 999);
    }

    /** Terms 3: "2 one less (0 of 0)". */
    static void t3ChainOneLess() {
        chain(new int[] {0, 0, 1, 0, 2, 1, 3, 2}, 2);
        chain(new int[] {999, 998, 0, 0}, 2);
        chain(new int[] {0, 0, 4, 2, 9, 7}, 2, 2);
        chain(new int[] {0, 1, 1, 1, 5, 5}, 2, 1);
    }

    /** Terms 3: "3 twice": of 0, of 499. */
    static void t3ChainTwice() {
        chain(new int[] {0, 0, 2, 4, 499, 998}, 3);
        chain(new int[] {999, 999, 1, 1, 0, 0, 500, 500});
        chain(new int[] {5, 4, 4, 4}, 0, 3);
    }

    /** Terms 3: CHAIN: "of like ones the first": the first tower's sort counts most. */
    static void t3ChainTheFirstOfLikeOnes() {
        chain(new int[] {1, 0}, 0);
        chain(new int[] {2, 1}, 0);
        chain(new int[] {1, 2}, 1);
        chain(new int[] {2, 0}, 0, 0);
        chain(new int[] {1, 3}, 1, 1);
        chain(new int[] {1, 4}, 1, 3);
        chain(new int[] {5, 3}, 0, 1);
        chain(new int[] {2, 6}, 1, 3);
        chain(new int[] {0, 128}, 1, 1, 3, 3, 3, 3, 3, 3);
    }

    /** Terms 3: CHAIN makes "of each the one wanted": of like numbers unlike ones can't be; four at once. */
    static void t3ChainForEachPair() {
        noChain(5, 6, 5, 7);
        noChain(5, 6, 9, 10, 5, 6, 9, 9);
        chain(new int[] {5, 6, 9, 10, 0, 1, 5, 6}, 1);
        chain(new int[] {1, 1, 2, 3, 3, 3}, 0, 3, 1);
        chain(new int[] {10, 3, 11, 3, 12, 4}, 0, 0, 1);
    }

    // ==== Promises 25 to 32 ====

    /** Promise 25: "PATHS; NONE if one can't be". */
    static void p25Paths() {
        Run x = Run.on("start a;dusk d;way a to d in 1;");
        x.is(x.paths(0, 1, 1), 1);
        x.is(x.paths(1, 1, 60), 0);
        for (int beats : new int[] {-1, 61, 62, Integer.MIN_VALUE, Integer.MAX_VALUE}) {
            x.is(x.paths(0, 1, beats), -1);
        }
        x.is(x.paths(2, 1, 1), -1);
        x.is(x.paths(0, 2, 1), -1);
        for (int far : FAR) {
            x.is(x.paths(far, 1, 1), -1);
            x.is(x.paths(0, far, 1), -1);
        }
        Run none = new Run();
        none.is(none.paths(0, 0, 0), -1);
    }

    /** Promise 26: "MEET: the BEATS; NONE if there are none, or one can't be". */
    static void p26Meet() {
        Run x = Run.on("start a;start b;dusk d;way a to d in 3;way b to d in 3;");
        x.is(x.meet(0, 1, 2), 3);
        x.is(x.meet(0, 1, 0), -1);
        x.is(x.meet(3, 1, 2), -1);
        x.is(x.meet(0, 3, 2), -1);
        x.is(x.meet(0, 1, 3), -1);
        for (int far : FAR) {
            x.is(x.meet(far, 1, 2), -1);
            x.is(x.meet(0, far, 2), -1);
            x.is(x.meet(0, 1, far), -1);
        }
        Run none = new Run();
        none.is(none.meet(0, 0, 0), -1);
    }

    /** Promise 27: "SPREAD; NONE if one can't be". */
    static void p27Spread() {
        Run x = Run.on("start a;dusk d;way a to d in 3;");
        x.is(x.spread(0, 1), 1);
        x.is(x.spread(1, 0), 0);
        x.is(x.spread(2, 1), -1);
        x.is(x.spread(0, 2), -1);
        for (int far : FAR) {
            x.is(x.spread(far, 1), -1);
            x.is(x.spread(0, far), -1);
        }
        Run none = new Run();
        none.is(none.spread(0, 0), -1);
    }

    /** Promise 28: "RING, as bits": a TOWER's is 1 by its number, 0 .. 9. */
    static void p28RingAsBits() {
        for (int tower = 0; tower < 10; tower++) {
            StringBuilder text = new StringBuilder();
            for (int i = 0; i < 10; i++) {
                text.append("join ").append((char) ('b' + i)).append(";");
            }
            char name = (char) ('b' + tower);
            text.append("way ").append(name).append(" to ").append(name).append(" in 1;");
            Run x = Run.on(text.toString());
            x.is(x.ring(), 1 << tower);
        }
    }

    /** Promise 28: the RING is of the net there is, not of those ahead. */
    static void p28RingOfThisNet() {
        Run x = new Run();
        String[] texts = {"join a;join b;way a to b in 1;way b to a in 1;", "join a;join b;way a to b in 1;", "", "join a;join b;way b to b in 1;",
            "join a;join b;join c;", "dusk a;"};
        int[] rings = {3, 0, 0, 2, 0, 0};
        for (int round = 0; round < 3; round++) {
            for (int i = 0; i < texts.length; i++) {
                x.type(texts[i]);
                x.net();
                x.is(x.ring(), rings[i]);
            }
        }
    }

    /** Promise 29: "A PAIR: how many there are; NONE, doing nothing, if one can't be" (both 0 .. 999), "or there are 4". */
    static void p29Pair() {
        Run x = new Run();
        for (int n : new int[] {-1, 1000, 1001, Integer.MIN_VALUE, Integer.MAX_VALUE}) {
            x.is(x.pair(n, 5), -1);
            x.is(x.pair(5, n), -1);
        }
        x.is(x.about(8), 0);
        x.is(x.pair(0, 0), 1);
        x.is(x.pair(999, 999), 2);
        x.is(x.pair(0, 0), 3);
        x.is(x.pair(-1, 5), -1);
        x.is(x.pair(998, 998), 4);
        x.is(x.pair(998, 998), -1);
        x.is(x.pair(1000, 5), -1);
        x.is(x.about(8), 4);
        x.is(x.chain(), 0);
    }

    /** Promise 30: "There are no PAIRS: how many there were": 0 .. 4. */
    static void p30Hush() {
        Run x = new Run();
        for (int many = 0; many <= 4; many++) {
            for (int i = 0; i < many; i++) {
                x.pair(5, 6);
            }
            x.is(x.hush(), many);
            x.is(x.about(8), 0);
            x.is(x.hush(), 0);
            x.is(x.chain(), 0);
        }
    }

    /** Promise 31: "CHAIN: how many; NONE if 8 are not enough. Their sorts lie there then (behind NONE: nothing)": without PAIRS none. */
    static void p31WhatLiesBehindChain() {
        Run x = new Run();
        x.is(x.chain(), 0);
        x.lie();
        x.pair(7, 4);
        x.is(x.chain(), 2);
        x.lie(0, 1);
        x.pair(1, 512);
        x.is(x.chain(), -1);
        x.lie();
        x.hush();
        x.pair(3, 768);
        x.is(x.chain(), 8);
        x.lie(3, 3, 3, 3, 3, 3, 3, 3);
        x.hush();
        x.is(x.about(13), 8);
        x.is(x.chain(), 0);
        x.lie();
    }

    /** Promise 32: "The i-th number of what lies there; NONE if there is none such": of nothing, of one, of 8; from 0 on. */
    static void p32Lies() {
        Run x = new Run();
        x.is(x.lies(0), -1);
        x.pair(3, 768);
        x.chain();
        for (int i = 0; i < 8; i++) {
            x.is(x.lies(i), 3);
        }
        x.is(x.lies(8), -1);
        for (int far : FAR) {
            x.is(x.lies(far), -1);
        }
        x.hush();
        x.pair(3, 6);
        x.chain();
        x.is(x.lies(0), 3);
        x.is(x.lies(1), -1);
        x.hush();
        x.chain();
        x.is(x.lies(0), -1);
    }

    /** Promise 32: what lies there is of the latest against, mend, chain or begun, till a new net. */
    static void p32WhatLiesLast() {
        Run x = Run.on("start a;start b;dusk d;way a to d in 5;way b to d in 5;claim c at d a+b;claim e at d a+b+(a=1);");
        x.pair(7, 4);
        x.is(x.against(1, 2, 6), 3);
        x.lie(1, 0);
        x.is(x.mend(0, 1, 4), 2);
        x.lie(1, 11);
        x.is(x.chain(), 2);
        x.lie(0, 1);
        x.is(x.begun(2, 0), 9);
        x.lie(0, 0);
        x.type("!");
        x.is(x.net(), -1);
        x.lie(0, 0);
        x.is(x.net(), 0);
        x.lie();
    }
}
