import java.util.ArrayList;
import java.util.List;
import java.util.Random;

/** Promise 21 by told draws: nets whose claims are often mended by one way or by two, held against the plain model. */
public final class MendTest {
    public static void main(String[] args) {
        int[] answers = new int[5];
        for (int seed = 0; seed < 700; seed++) {
            mends(seed, answers);
        }
        for (int answer = -2; answer <= 2; answer++) {
            Check.due("answers of " + answer + " were seen", answers[answer + 2] > 0, true);
        }
        Check.close("MendTest");
    }

    private static String one(Random random, String... of) {
        return of[random.nextInt(of.length)];
    }

    private static String netText(Random random) {
        List<String> sorts = new ArrayList<>(List.of("start", "dusk"));
        int towers = 4 + random.nextInt(5);
        while (sorts.size() < towers) {
            String sort = one(random, "start", "join", "split", "odd", "dusk", "pond", "fox", "bread", "wind", "odd", "split");
            boolean isFourth = sort.equals("start") && sorts.stream().filter("start"::equals).count() == 3;
            sorts.add(isFourth ? "odd" : sort);
        }
        StringBuilder text = new StringBuilder();
        StringBuilder sum = new StringBuilder();
        for (int i = 0; i < towers; i++) {
            boolean hasN = "pond fox bread wind".contains(sorts.get(i));
            char name = (char) ('b' + i);
            text.append(sorts.get(i)).append(" ").append(name).append(hasN ? " " + (1 + random.nextInt(3)) : "").append(";");
            if (sorts.get(i).equals("start")) {
                sum.append(sum.length() > 0 ? "+(" : "(").append(name).append(one(random, "*", "/")).append(random.nextInt(3)).append(")");
            }
        }
        for (int i = 0; i < towers; i++) {
            int most = sorts.get(i).equals("dusk") ? 0 : sorts.get(i).equals("split") || sorts.get(i).equals("odd") ? 2 : 1;
            for (int k = 0; k < most; k++) {
                int to = random.nextInt(4) == 0 ? random.nextInt(towers) : random.nextInt(3) == 0 ? 1 : Math.min(towers - 1, i + 1 + random.nextInt(3));
                text.append("way ").append((char) ('b' + i)).append(" to ").append((char) ('b' + to)).append(" in ").append(1 + random.nextInt(4)).append(";");
            }
        }
        for (int c = 0; c < 3; c++) {
            text.append("claim ").append((char) ('b' + c)).append(" at c ").append(one(random, "", "0 + ", "0 * ", "1 * ")).append("(").append(sum).append(")");
            text.append(one(random, "", "", " % 2", " / 2")).append(";");
        }
        return text.toString();
    }

    private static void mends(int seed, int[] answers) {
        Random random = new Random(seed);
        String text = netText(random);
        GeeseSums x = Check.on(text);
        Plain y = new Plain();
        int[] w = Check.words(text);
        for (int i = 0; i < w.length; i += 5) {
            y.feed(w[i], w[i + 1], w[i + 2], w[i + 3], w[i + 4]);
        }
        y.end(text.length());
        y.net();
        for (int i = 0; i < 6; i++) {
            int claim = i / 2;
            int m = 1 + random.nextInt(3);
            int beats = 2 + random.nextInt(12);
            int answer = x.mend(claim, m, beats);
            String what = "mend(" + claim + ", " + m + ", " + beats + ") on " + text;
            Check.due(what, answer, y.mend(claim, m, beats));
            for (int k = 0; k < 3; k++) {
                Check.due(what + ": lies(" + k + ")", x.lies(k), y.lies(k));
            }
            answers[Math.max(0, answer + 2)]++;
        }
        for (int way = 0; way < x.about(2); way++) {
            Check.due("beats as they were", x.way(way, 2), y.way(way, 2));
        }
    }
}
