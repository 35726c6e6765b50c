import java.util.ArrayList;
import java.util.List;
import java.util.Random;

/** All promises, by runs of told draws: the program and the plain model get the same calls. */
public final class PlainTest {
    private static Random random = new Random(0);

    public static void main(String[] args) {
        int runs = args.length > 0 ? Integer.parseInt(args[0]) : 3000;
        int from = args.length > 1 ? Integer.parseInt(args[1]) : 0;
        for (int run = from; run < from + runs; run++) {
            random = new Random(run);
            texts(run);
            calls(run);
        }
        Check.close("PlainTest");
    }

    private static int below(int n) {
        return random.nextInt(n);
    }

    private static String pick(String... of) {
        return of[below(of.length)];
    }

    // ---- texts ----

    private static String unit(List<String> starts, int depth) {
        int kind = below(depth > 2 ? 5 : 7);
        if (kind < 3 && !starts.isEmpty()) {
            return starts.get(below(starts.size()));
        }
        if (kind < 5) {
            return "" + (below(6) == 0 ? below(10000) : below(5));
        }
        return "(" + formula(starts, depth + 1) + ")";
    }

    private static String formula(List<String> starts, int depth) {
        StringBuilder text = new StringBuilder();
        int joins = below(3) == 0 ? 1 + below(2) : 0;
        for (int i = 0; i <= joins; i++) {
            text.append(i > 0 ? pick(" or ", " and ") : "");
            text.append(below(6) == 0 ? "not " : "");
            text.append(sum(starts, depth));
            text.append(below(4) == 0 ? pick("<", ">", "=") + sum(starts, depth) : "");
        }
        return text.toString();
    }

    private static String sum(List<String> starts, int depth) {
        StringBuilder text = new StringBuilder(unit(starts, depth));
        for (int i = below(4); i > 0; i--) {
            text.append(pick("+", "-", "*", "/", "%", " + ")).append(unit(starts, depth));
        }
        return text.toString();
    }

    static String netText() {
        StringBuilder text = new StringBuilder();
        List<String> names = new ArrayList<>();
        List<String> sorts = new ArrayList<>();
        List<String> starts = new ArrayList<>();
        List<String> dusks = new ArrayList<>();
        int towers = 2 + below(9);
        for (int i = 0; i < towers; i++) {
            String sort = i < 2 && below(4) > 0 ? pick("start", "dusk") : pick("start", "join", "split", "odd", "dusk", "pond", "fox", "bread", "wind", "split", "odd");
            if (sort.equals("start") && starts.size() == 3) {
                sort = "dusk";
            }
            String name = "" + (char) ('b' + i);
            names.add(name);
            sorts.add(sort);
            if (sort.equals("start")) {
                starts.add(name);
            }
            if (sort.equals("dusk")) {
                dusks.add(name);
            }
            boolean hasN = "pondfoxbreadwind".contains(sort);
            text.append(sort).append(" ").append(name).append(hasN ? " " + (1 + below(below(5) == 0 ? 99 : 4)) : "").append(";");
        }
        int ways = 0;
        for (int i = 0; i < towers; i++) {
            int most = sorts.get(i).equals("dusk") ? 0 : "splitodd".contains(sorts.get(i)) ? 2 : 1;
            for (int k = 0; k < most && ways < 16; k++) {
                if (below(8) > 0) {
                    // Mostly on, at times back: else most geese fly for ever.
                    int to = below(4) == 0 ? below(towers) : Math.min(towers - 1, i + 1 + below(towers - i));
                    text.append("way ").append(names.get(i)).append(" to ").append(names.get(to));
                    text.append(" in ").append(1 + below(below(3) == 0 ? 9 : 3)).append(";");
                    ways++;
                }
            }
        }
        for (int i = 0; i < 4 && !dusks.isEmpty(); i++) {
            text.append("claim ").append((char) ('a' + i)).append(" at ").append(dusks.get(below(dusks.size())));
            text.append(" ").append(below(3) == 0 || starts.isEmpty() ? formula(starts, 0) : pick("", "0 + ") + starts.get(below(starts.size()))
                + pick("", "", " / 2", " % 2", " - 1", " * 2", "/2+" + starts.get(0))).append(";");
        }
        if (below(2) == 0) {
            text.append("draw ").append(below(1000)).append(";");
        }
        return text.toString();
    }

    private static String spoil(String text) {
        StringBuilder s = new StringBuilder(text);
        for (int i = 1 + below(2); i > 0 && s.length() > 0; i--) {
            int at = below(s.length());
            int kind = below(5);
            if (kind == 0) {
                s.deleteCharAt(at);
            } else if (kind == 1) {
                s.insert(at, pick(" ", ";", "(", ")", "x", "not ", "0", "99", "!", "A", "start", "dusk d;", "<", "+", "\n", "\t", "to", "\u00ff"));
            } else if (kind == 2) {
                s.setCharAt(at, pick(" ", ";", "(", ")", "b", "c", "d", "9", "0", "-", "*").charAt(0));
            } else if (kind == 3) {
                s.setLength(at);
            } else {
                s.insert(at, s.substring(0, Math.min(s.length(), below(30))));
            }
        }
        return s.toString();
    }

    private static void put(String text, Run x, Plain y) {
        x.end(0);
        y.end(0);
        int[] w = Check.words(text);
        for (int i = 0; i < w.length; i += 5) {
            Check.due("feed", x.feed(w[i], w[i + 1], w[i + 2], w[i + 3], w[i + 4]), y.feed(w[i], w[i + 1], w[i + 2], w[i + 3], w[i + 4]));
        }
        Check.due("end", x.end(text.length()), y.end(text.length()));
    }

    private static void texts(int run) {
        Run x = new Run();
        Plain y = new Plain();
        for (int i = 0; i < 5; i++) {
            String text = spoil(netText());
            put(text, x, y);
            Check.due("run " + run + " net() of " + text, x.net(), y.net());
            Check.due("run " + run + " fault(0) of " + text, x.fault(0), y.fault(0));
            Check.due("run " + run + " fault(1) of " + text, x.fault(1), y.fault(1));
            Check.due("run " + run + " units of " + text, x.about(12), y.about(12));
        }
    }

    // ---- calls ----

    /** A number that mostly can be. */
    private static int n(int most) {
        return below(12) == 0 ? pickInt(-1, most + 1, Integer.MIN_VALUE, Integer.MAX_VALUE) : below(most + 1);
    }

    private static int pickInt(int... of) {
        return of[below(of.length)];
    }

    private static int dusk(Plain y) {
        List<Integer> dusks = new ArrayList<>();
        for (int t = 0; t < 10; t++) {
            if (y.tower(t, 0) == 4) {
                dusks.add(t);
            }
        }
        return dusks.isEmpty() || below(12) == 0 ? n(10) : dusks.get(below(dusks.size()));
    }

    private static void calls(int run) {
        Run x = new Run();
        Plain y = new Plain();
        String text = netText();
        put(text, x, y);
        Check.due("run " + run + " net() of " + text, x.net(), y.net());
        // Behind these there are calls enough left to look at all at last.
        while (x.calls() < 340) {
            String call = "run " + run + " call " + x.calls() + " on " + text + ": ";
            if (below(3) > 0) {
                earnest(call, x, y);
            } else {
                reckonings(call, x, y);
            }
            if (below(80) == 0) {
                text = below(3) == 0 ? spoil(netText()) : netText();
                put(text, x, y);
                Check.due(call + "net()", x.net(), y.net());
            }
            if (below(6) == 0) {
                look(call, x, y, 6);
            }
        }
        look("run " + run + " at last, on " + text + ": ", x, y, Run.MOST_CALLS - x.calls() - 6);
        Check.due("run " + run + ": accounted", x.geese(0) + x.geese(1), x.geese(2) + x.geese(3) + x.geese(4) + x.geese(5));
    }

    /** So many answers of those that tell what there is. */
    private static void look(String call, Run x, Plain y, int many) {
        for (int i = 0; i < many; i++) {
            int a = n(15);
            int what = n(4);
            int left = n(13);
            switch (below(8)) {
                case 0 -> Check.due(call + "about(" + a + ")", x.about(a), y.about(a));
                case 1 -> Check.due(call + "geese(" + what + ")", x.geese(what), y.geese(what));
                case 2 -> Check.due(call + "geese(" + left + ")", x.geese(left), y.geese(left));
                case 3, 4 -> Check.due(call + "tower(" + a % 11 + ", " + what + ")", x.tower(a % 11, what), y.tower(a % 11, what));
                case 5 -> Check.due(call + "way(" + a + ", " + what + ")", x.way(a, what), y.way(a, what));
                case 6 -> Check.due(call + "flock(" + a + ", " + left + ")", x.flock(a, left), y.flock(a, left));
                default -> Check.due(call + "lies(" + what + ")", x.lies(what), y.lies(what));
            }
        }
    }

    private static void earnest(String call, Run x, Plain y) {
        int a = n(3);
        int b = n(below(2) == 0 ? 20 : 1000);
        switch (below(13)) {
            case 0, 1, 2 -> Check.due(call + "begin(" + a + ", " + b + ")", x.begin(a, b), y.begin(a, b));
            case 3, 4, 5 -> {
                int beats = below(3) == 0 ? n(61) : below(4);
                Check.due(call + "beats(" + beats + ")", x.beats(beats), y.beats(beats));
            }
            case 6, 7 -> Check.due(call + "gust()", x.gust(), y.gust());
            case 8, 9 -> Check.due(call + "undo()", x.undo(), y.undo());
            case 10 -> Check.due(call + "redo()", x.redo(), y.redo());
            case 11 -> Check.due(call + "image(" + a + ")", x.image(a), y.image(a));
            default -> Check.due(call + "back(" + a + ")", x.back(a), y.back(a));
        }
    }

    private static void reckonings(String call, Run x, Plain y) {
        int dusk = dusk(y);
        int beats = below(2) == 0 ? 1 + below(12) : n(101);
        int start = n(2);
        int way = n(16);
        int claim = n(4);
        int m = below(30) == 0 ? n(101) : below(5);
        int k = below(20) == 0 ? n(5) : y.about(10) - below(8);
        switch (below(24)) {
            case 0 -> Check.due(call + "row(" + start + ", " + m + ")", x.row(start, m), y.row(start, m));
            case 1 -> {
                int n = n(1000);
                Check.due(call + "row(" + start + ", " + n + ")", x.row(start, n), y.row(start, n));
            }
            case 2 -> Check.due(call + "reckon(" + dusk + ", " + beats + ")", x.reckon(dusk, beats), y.reckon(dusk, beats));
            case 3 -> Check.due(call + "still()", x.still(), y.still());
            case 4 -> Check.due(call + "says(" + claim + ")", x.says(claim), y.says(claim));
            case 5 -> Check.due(call + "wrong(" + claim + ", " + m + ", " + beats + ")", x.wrong(claim, m, beats), y.wrong(claim, m, beats));
            case 6 -> Check.due(call + "against(" + claim + ", " + m + ", " + beats + ")", x.against(claim, m, beats), y.against(claim, m, beats));
            case 7 -> {
                int few = below(8) == 0 ? m : below(3);
                int short_ = below(4) == 0 ? beats : 1 + below(15);
                Check.due(call + "mend(" + claim + ", " + few + ", " + short_ + ")", x.mend(claim, few, short_), y.mend(claim, few, short_));
            }
            case 8, 9 -> {
                int beat = n(beats > 0 && beats < 102 ? beats : 5);
                Check.due(call + "loss(" + way + ", " + beat + ", " + dusk + ", " + beats + ")", x.loss(way, beat, dusk, beats), y.loss(way, beat, dusk, beats));
            }
            case 10 -> Check.due(call + "blind(" + dusk + ", " + beats + ")", x.blind(dusk, beats), y.blind(dusk, beats));
            case 11, 12 -> {
                int most = n(41);
                int what = n(3);
                Check.due(call + "adds(" + start + ", " + dusk + ", " + most + ", " + beats + ", " + what + ")",
                    x.adds(start, dusk, most, beats, what), y.adds(start, dusk, most, beats, what));
            }
            case 13 -> {
                int t = n(10);
                int length = below(2) == 0 ? n(60) : below(10);
                Check.due(call + "paths(" + t + ", " + dusk + ", " + length + ")", x.paths(t, dusk, length), y.paths(t, dusk, length));
            }
            case 14 -> {
                int t = n(10);
                int u = n(10);
                Check.due(call + "meet(" + t + ", " + u + ", " + dusk + ")", x.meet(t, u, dusk), y.meet(t, u, dusk));
                Check.due(call + "meet(" + dusk + ", " + u + ", " + t + ")", x.meet(dusk, u, t), y.meet(dusk, u, t));
            }
            case 15 -> {
                int t = n(10);
                int u = n(10);
                Check.due(call + "spread(" + t + ", " + u + ")", x.spread(t, u), y.spread(t, u));
                Check.due(call + "ring()", x.ring(), y.ring());
            }
            case 16 -> {
                int of = n(below(2) == 0 ? 20 : 1000);
                int wanted = below(3) == 0 ? n(1000) : Math.max(0, Math.min(999, pickInt(of / 4, of * 2 + 1, of + 3, of / 2 - 1, 8)));
                Check.due(call + "pair(" + of + ", " + wanted + ")", x.pair(of, wanted), y.pair(of, wanted));
            }
            case 17 -> Check.due(call + "hush()", x.hush(), y.hush());
            case 18 -> Check.due(call + "chain()", x.chain(), y.chain());
            case 19, 20 -> {
                int behind = below(2) == 0 ? n(61) : 1 + below(6);
                int many = below(8) == 0 ? n(1000000) : below(3);
                Check.due(call + "sight(" + dusk + ", " + behind + ", " + many + ")", x.sight(dusk, behind, many), y.sight(dusk, behind, many));
                int by = below(8) == 0 ? n(1001) : below(3);
                Check.due(call + "later(" + by + ")", x.later(by), y.later(by));
            }
            case 21 -> {
                int sight = n(4);
                Check.due(call + "untell(" + sight + ")", x.untell(sight), y.untell(sight));
            }
            case 22 -> Check.due(call + "begun(" + m + ", " + k + ")", x.begun(m, k), y.begun(m, k));
            default -> Check.due(call + "sure(" + start + ", " + m + ", " + k + ")", x.sure(start, m, k), y.sure(start, m, k));
        }
    }
}
