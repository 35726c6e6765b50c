/**
 * The boundary cases that the document names: "Terms" 1 (t1..) and promises 1 to 5 (p01 .. p05). One test a sentence; its remark
 * tells the sentence.
 */
public final class EdgeTextTest {
    private static final String[] WORDS = {"start", "join", "split", "odd", "dusk", "pond", "fox", "bread", "wind", "way", "claim", "draw", "to",
        "in", "at", "or", "and", "not"};
    private static final String[] SORTS = {"start", "join", "split", "odd", "dusk", "pond", "fox", "bread", "wind"};
    private static final String SIGNS = ";()<>=+-*/%";
    private static final String CLAIM = "start s;dusk d;claim c at d ";

    public static void main(String[] args) throws ReflectiveOperationException {
        Check.edges(EdgeTextTest.class);
        Check.close("EdgeTextTest");
    }

    /** The line of a tower: "pond a 5;". */
    private static String tower(String sort, String name) {
        return sort + " " + name + (hasN(sort) ? " 5;" : ";");
    }

    private static boolean hasN(String sort) {
        return sort.equals("pond") || sort.equals("fox") || sort.equals("bread") || sort.equals("wind");
    }

    private static boolean isLetter(int c) {
        return c >= 97 && c <= 122;
    }

    private static boolean isDigit(int c) {
        return c >= 48 && c <= 57;
    }

    private static boolean isBlank(int c) {
        return c == 32 || c == 10;
    }

    private static boolean isSign(int c) {
        return SIGNS.indexOf(c) >= 0;
    }

    // ==== Terms 1: the text ====

    /** Terms 1: "A NET is a text of at most 1,600 bytes": the last byte is read. */
    static void t1TextOf1600Bytes() {
        String text = "start a;" + " ".repeat(1585) + "dusk d;";
        Run x = new Run();
        x.type(text);
        x.is(x.about(11), 1600);
        x.is(x.net(), 2);
        x.is(x.tower(1, 0), 4);
        x.type(text);
        x.is(x.end(1599), 1599);
        x.is(x.net(), -1);
        x.is(x.fault(0), 2);
        x.is(x.fault(1), 1599);
    }

    /** Terms 1: "A NET is a text of at most 1,600 bytes": all of them lines. */
    static void t1FullOfLines() {
        String line = "claim abcdefgh at d s*1234+s*1234+s*1234+s*1234+s*1234+s*1234+s*1234+s*1234;";
        StringBuilder text = new StringBuilder("start s;dusk d;");
        for (int i = 0; i < 5; i++) {
            text.append(line.replace("abcdefgh", "abcdefg" + (char) ('a' + i)));
        }
        text.append("join j;".repeat(1)).append("\n".repeat(1600 - text.length() - 7 - 9)).append("draw 999;");
        Run x = Run.on(text.toString());
        x.is(x.about(0), 3);
        x.is(x.about(3), 5);
        x.is(x.about(12), 80);
        x.is(x.about(5), 999);
    }

    /** Terms 1: "A NET is a text of at most 1,600 bytes": each of them a TOKEN of its own. */
    static void t1TextOf1600Tokens() {
        Run.fault(";".repeat(1600), 2, 0);
        Run.fault("(5".repeat(800), 2, 0);
        Run.fault("draw5;" + ";".repeat(1594), 2, 6);
        Run.fault(CLAIM + "(".repeat(1572), 2, 35);
        Run.fault(CLAIM + "1" + "+".repeat(1571), 2, 30);
    }

    /** Terms 1: a NET is "empty at first". */
    static void t1EmptyAtFirst() {
        Run x = new Run();
        for (int what : new int[] {0, 1, 2, 3, 12}) {
            x.is(x.about(what), 0);
        }
        x.is(x.tower(0, 0), -1);
        x.is(x.way(0, 0), -1);
        x.is(x.says(0), 0);
    }

    /** Terms 1: "net = {line}": no line at all. */
    static void t1NoLineAtAll() {
        Run.fault("", 0, -1);
        Run.fault(" ", 0, -1);
        Run.fault("\n", 0, -1);
        Run.fault(" ".repeat(1600), 0, -1);
    }

    /** Terms 1: "line = ..": what may begin one, and what may not (it can't stand there: 2). */
    static void t1WhatBeginsALine() {
        for (String sort : SORTS) {
            Run.fault(tower(sort, "a"), 0, -1);
            Run.fault("join b;" + tower(sort, "a"), 0, -1);
        }
        Run.fault("join a;way a to a in 1;", 0, -1);
        Run.fault("dusk d;claim c at d 1;", 0, -1);
        Run.fault("draw 1;", 0, -1);
        for (String word : new String[] {"to", "in", "at", "or", "and", "not", "a", "7", ";", "(", ")", "<", ">", "=", "+", "-", "*", "/", "%"}) {
            Run.fault(word, 2, 0);
            Run.fault("join a;" + word, 2, 7);
        }
    }

    /** Each token of a line left out with all behind it, left out alone, and replaced by one that can't stand there. */
    private static void cutAndReplaced(String ahead, String line, String wrong) {
        String[] tokens = line.split(" ");
        StringBuilder text = new StringBuilder(ahead);
        for (int i = 0; i < tokens.length; i++) {
            if (i > 0) {
                Run.fault(text.toString(), 2, text.length());
                Run.fault(text + wrong + " ;", 2, text.length());
                StringBuilder without = new StringBuilder(text);
                for (int k = i + 1; k < tokens.length; k++) {
                    without.append(tokens[k]).append(" ");
                }
                Run.fault(without.toString(), 2, text.length());
            }
            text.append(tokens[i]).append(" ");
        }
        Run.fault(text.toString(), 0, -1);
    }

    /** Terms 1: "line = (start | join | split | odd | dusk) NAME ; | (pond | fox | bread | wind) NAME N ;". */
    static void t1LinesOfTowers() {
        for (String sort : SORTS) {
            cutAndReplaced("", hasN(sort) ? sort + " a 5 ;" : sort + " a ;", ")");
            cutAndReplaced("", hasN(sort) ? sort + " a 5 ;" : sort + " a ;", "to");
        }
        Run.fault("start a 5;", 2, 8);
        Run.fault("dusk a 5;", 2, 7);
        Run.fault("pond a b;", 2, 7);
        Run.fault("pond 5 a;", 2, 5);
        Run.fault("pond a 5 5;", 2, 9);
    }

    /** Terms 1: "line = .. way NAME to NAME in N ;". */
    static void t1LinesOfWays() {
        cutAndReplaced("join a;", "way a to a in 5 ;", ")");
        cutAndReplaced("join a;", "way a to a in 5 ;", "start");
        Run.fault("join a;way a in a to 5;", 2, 13);
        Run.fault("join a;way 5 to a in 5;", 2, 11);
        Run.fault("join a;way a to 5 in 5;", 2, 16);
        Run.fault("join a;way a to a in a;", 2, 21);
        Run.fault("join a;way a to a at 5;", 2, 18);
    }

    /** Terms 1: "line = .. claim NAME at NAME e ; | draw N ;". */
    static void t1LinesOfClaimsAndDraws() {
        cutAndReplaced("dusk d;", "claim c at d 1 ;", ")");
        cutAndReplaced("dusk d;", "claim c at d 1 ;", "in");
        cutAndReplaced("", "draw 5 ;", ")");
        cutAndReplaced("", "draw 5 ;", "a");
        Run.fault("dusk d;claim 1 at d 1;", 2, 13);
        Run.fault("dusk d;claim c in d 1;", 2, 15);
        Run.fault("dusk d;claim c at 1 1;", 2, 18);
    }

    /** Terms 1: "e = both {or both}. both = one {and one}. one = not one | sum ..": no operand, one, more. */
    static void t1FormulasOfOnes() {
        Run.fault(CLAIM + ";", 2, 28);
        Run.fault(CLAIM + "1;", 0, -1);
        for (String joint : new String[] {"or", "and"}) {
            Run.fault(CLAIM + "1 " + joint + " 1;", 0, -1);
            Run.fault(CLAIM + "1 " + joint + " 1 " + joint + " not 1;", 0, -1);
            Run.fault(CLAIM + joint + " 1;", 2, 28);
            Run.fault(CLAIM + "1 " + joint + ";", 2, 30 + joint.length());
            Run.fault(CLAIM + "1 " + joint + " " + joint + " 1;", 2, 31 + joint.length());
        }
        Run.fault(CLAIM + "not;", 2, 31);
        Run.fault(CLAIM + "not not 1;", 0, -1);
        Run.fault(CLAIM + "1 not;", 2, 30);
        Run.fault(CLAIM + "1 + not 1;", 2, 32);
        Run.fault(CLAIM + "1 * not 1;", 2, 32);
        Run.fault(CLAIM + "1 = not 1;", 2, 32);
        Run.fault(CLAIM + "1 + (not 1);", 0, -1);
        Run.fault(CLAIM + "1 1;", 2, 30);
        Run.fault(CLAIM + "s s;", 2, 30);
        Run.fault(CLAIM + "1 (1);", 2, 30);
    }

    /** Terms 1: "sum [(< | > | =) sum]": one relation at most. */
    static void t1OneRelationAtMost() {
        for (String sign : new String[] {"<", ">", "="}) {
            Run.fault(CLAIM + "1 " + sign + " 1;", 0, -1);
            Run.fault(CLAIM + "1 " + sign + " 1 < 1;", 2, 34);
            Run.fault(CLAIM + "1 " + sign + " 1 and 1 " + sign + " 1;", 0, -1);
            Run.fault(CLAIM + "(1 " + sign + " 1) < 1;", 0, -1);
            Run.fault(CLAIM + sign + " 1;", 2, 28);
            Run.fault(CLAIM + "1 " + sign + ";", 2, 31);
        }
    }

    /** Terms 1: "sum = term {(+ | -) term}. term = unit {(* | / | %) unit}. unit = N | NAME | ( e )". */
    static void t1SumsOfUnits() {
        for (String sign : new String[] {"+", "-", "*", "/", "%"}) {
            Run.fault(CLAIM + "1" + sign + "s" + sign + "(1);", 0, -1);
            Run.fault(CLAIM + sign + "1;", 2, 28);
            Run.fault(CLAIM + "1" + sign + ";", 2, 30);
            Run.fault(CLAIM + "1" + sign + sign + "1;", 2, 30);
        }
        Run.fault(CLAIM + "();", 2, 29);
        Run.fault(CLAIM + "(1;", 2, 30);
        Run.fault(CLAIM + "(1", 2, 30);
        Run.fault(CLAIM + "1);", 2, 29);
        Run.fault(CLAIM + "(1));", 2, 31);
        Run.fault(CLAIM + "(1 1);", 2, 31);
        Run.fault(CLAIM + "(1 or 1 and 1 = 1);", 0, -1);
    }

    private static final String[] OPERATORS = {"or", "and", "<", ">", "=", "+", "-", "*", "/", "%"};

    /** e, both, one, sum, term: what is told later binds more. */
    private static int level(String operator) {
        switch (operator) {
            case "or": return 0;
            case "and": return 1;
            case "<": case ">": case "=": return 2;
            case "+": case "-": return 3;
            default: return 4;
        }
    }

    private static int joined(int a, String operator, int b) {
        switch (operator) {
            case "or": return a != 0 || b != 0 ? 1 : 0;
            case "and": return a != 0 && b != 0 ? 1 : 0;
            case "<": return a < b ? 1 : 0;
            case ">": return a > b ? 1 : 0;
            case "=": return a == b ? 1 : 0;
            case "+": return a + b;
            case "-": return a - b;
            case "*": return a * b;
            case "/": return b == 0 ? 0 : a / b;
            default: return b == 0 ? 0 : a % b;
        }
    }

    /** What a formula of N's says, with blanks between its TOKENS and without those that need not be. */
    private static void says(String e, int want) {
        String tight = e.replaceAll(" ?([<>=+*/%()-]) ?", "$1");
        Run x = Run.on("dusk d;claim c at d " + e + ";claim t at d " + tight + ";");
        x.is(x.says(0), want);
        x.is(x.says(1), want);
    }

    /** Terms 1: "e = both {or both}. both = one {and one}. one = .. sum [..]. sum = term {..}. term = unit {..}": of each two, one behind the other. */
    static void t1WhatBindsMore() {
        int[][] units = {{7, 5, 3}, {9, 2, 4}, {0, 8, 8}, {1, 0, 6}, {6, 6, 0}};
        for (String first : OPERATORS) {
            for (String then : OPERATORS) {
                boolean isThenAhead = level(then) > level(first);
                for (int[] u : units) {
                    String e = u[0] + " " + first + " " + u[1] + " " + then + " " + u[2];
                    if (level(first) == 2 && level(then) == 2) {
                        Run.fault("dusk d;claim c at d " + e + ";", 2, 26);
                    } else if (isThenAhead) {
                        says(e, joined(u[0], first, joined(u[1], then, u[2])));
                    } else {
                        says(e, joined(joined(u[0], first, u[1]), then, u[2]));
                    }
                    says("(" + u[0] + " " + first + " " + u[1] + ") " + then + " " + u[2], joined(joined(u[0], first, u[1]), then, u[2]));
                    says(u[0] + " " + first + " (" + u[1] + " " + then + " " + u[2] + ")", joined(u[0], first, joined(u[1], then, u[2])));
                }
            }
        }
    }

    /** The same sentence: three of a kind from the left; a relation between sums, of terms, of units. */
    static void t1FromTheLeft() {
        says("20 - 7 - 5 - 3", 5);
        says("20 - 7 + 5 - 3", 15);
        says("200 / 7 / 5 / 2", 2);
        says("100 / 7 * 5 % 9 / 2", 3);
        says("1 + 2 * 3 - 8 / 4 % 3 - 1", 4);
        says("1 + 2 * 3 > 2 * 3 and 5 - 1 < 2 * 2 or 0", 0);
        says("1 + 2 * 3 > 2 * 3 and 5 - 1 < 2 * 2 or 9", 1);
        says("0 and 0 or 5", 1);
        says("5 or 0 and 0", 1);
        says("(5 or 0) and 0", 0);
        says("1 = 0 or 0 = 1 or 1 = 1", 1);
        says("1 = 0 or 0 = 1 or 1 = 2", 0);
        says("2 * (3 + 4) * 5", 70);
        says("((2))", 2);
        says("(1 < 2) + (1 < 2) + (2 < 1)", 2);
    }

    /** Terms 1: "one = not one | sum [(< | > | =) sum]": not is of a whole one, relation and all, and of no more. */
    static void t1NotOfAWholeOne() {
        int[][] units = {{7, 5}, {5, 5}, {0, 8}, {1, 0}, {0, 0}};
        for (String operator : OPERATORS) {
            for (int[] u : units) {
                String rest = u[0] + " " + operator + " " + u[1];
                int joined = joined(u[0], operator, u[1]);
                int negated = level(operator) < 2 ? joined(u[0] == 0 ? 1 : 0, operator, u[1]) : joined == 0 ? 1 : 0;
                says("not " + rest, negated);
                says("not (" + rest + ")", joined == 0 ? 1 : 0);
                says("not not (" + rest + ")", joined == 0 ? 0 : 1);
                says("(not " + u[0] + ") " + operator + " " + u[1], joined(u[0] == 0 ? 1 : 0, operator, u[1]));
            }
        }
        says("1 and not 0 and 1", 1);
        says("1 and not 0 and 0", 0);
        says("not 1 or not 0", 1);
        says("not 0 = 1", 1);
        says("not 1 + 1", 0);
    }

    /** Terms 1: "TOKENS: words (a .. z ..)": each letter is one, and as the last of eight it tells NAMES apart. */
    static void t1WordsOfEachLetter() {
        for (char c = 'a'; c <= 'z'; c++) {
            Run.fault("join " + c + ";", 0, -1);
            Run.fault("join zzzzzzz" + c + ";", 0, -1);
            String other = c == 'a' ? "b" : "a";
            Run.fault("join zzzzzzz" + c + ";join zzzzzzz" + other + ";join " + c + ";join " + other + ";", 0, -1);
        }
        Run.fault("join a;join aa;join aaa;join aaaa;join aaaaa;join aaaaaa;join aaaaaaa;join aaaaaaaa;join b;join ba;", 0, -1);
        Run.fault("join A;", 1, 5);
        Run.fault("join Z;", 1, 5);
        Run.fault("join `;", 1, 5);
        Run.fault("join {;", 1, 5);
    }

    /** Terms 1: "TOKENS: words (.. 8 at most)"; "a longer word .. : 1 at its first byte". */
    static void t1WordsOf8Letters() {
        Run.fault("join abcdefgh;", 0, -1);
        Run.fault("join abcdefghi;", 1, 5);
        Run.fault("join abcdefghijklmnopqrstuvwxyz;", 1, 5);
        Run.fault("join " + "a".repeat(1594) + ";", 1, 5);
        Run.fault("dusk d;claim abcdefgh at d 1;", 0, -1);
        Run.fault("dusk d;claim abcdefghi at d 1;", 1, 13);
        Run.fault("startxyz;", 2, 0);
        Run.fault("startxyzz;", 1, 0);
        Run x = Run.on("start abcdefgh;dusk stuvwxyz;way abcdefgh to stuvwxyz in 1;claim abcdefgh at stuvwxyz abcdefgh;");
        x.is(x.row(0, 3), 0);
        x.is(x.says(0), 3);
    }

    /** Terms 1: "N (1 to 4 digits)"; ".. more digits .. : 1 at its first byte". */
    static void t1NumbersOf4Digits() {
        String[] taken = {"7", "07", "007", "0007", "0", "0000", "10", "100", "0999"};
        int[] seeds = {7, 7, 7, 7, 0, 0, 10, 100, 999};
        for (int i = 0; i < taken.length; i++) {
            Run x = Run.on("draw " + taken[i] + ";");
            x.is(x.about(5), seeds[i]);
        }
        Run.fault("draw 00007;", 1, 5);
        Run.fault("draw 10000;", 1, 5);
        Run.fault("draw 000000000000000000000000000007;", 1, 5);
        Run.fault("draw 99999999999999999999999999999;", 1, 5);
        Run x = Run.on(CLAIM + "9999;claim e at d 0000;claim f at d 0010;");
        x.is(x.says(0), 9999);
        x.is(x.says(1), 0);
        x.is(x.says(2), 10);
        Run.fault(CLAIM + "10000;", 1, 28);
        Run.fault("pond p 12345;", 1, 7);
        Run.fault("12345", 1, 0);
        Run.fault("1234", 2, 0);
    }

    /** Terms 1: "signs ; ( ) < > = + - * / %; blanks (32, 10)": of all 256 bytes no other one is a TOKEN or blank. */
    static void t1EachByteAlone() {
        for (int c = 0; c < 256; c++) {
            boolean isToken = isLetter(c) || isDigit(c) || isSign(c);
            Run.fault("" + (char) c, isBlank(c) ? 0 : isToken ? 2 : 1, isBlank(c) ? -1 : 0);
        }
    }

    /** Terms 1: "signs": no N and no NAME is one, whatever its number or its letters are. */
    static void t1NumbersAndNamesAreNoSigns() {
        for (int n = 0; n <= 127; n++) {
            Run.fault("join q " + n + " ", 2, 7);
            Run.fault(CLAIM + "s " + n + " s;", 2, 30);
            Run.fault("join q;way q " + n + " q in 1;", 2, 13);
        }
        for (char a = 'a'; a <= 'z'; a++) {
            for (char b = 'a'; b <= 'd'; b++) {
                // Where a sign is wanted, a NAME and the word "at" stand alike.
                String name = "" + b + a + "q";
                Run.fault("join q " + name + " ", 2, 7);
                Run.fault(CLAIM + "s " + name + " s;", 2, 30);
                Run.fault(CLAIM + "s " + b + a + " s;", 2, 30);
            }
        }
    }

    /** The same sentence: each byte behind a NAME. */
    static void t1EachByteBehindAName() {
        for (int c = 0; c < 256; c++) {
            String text = "join q" + (char) c + ";";
            if (isLetter(c) || isBlank(c)) {
                Run.fault(text, 0, -1);
            } else if (c == ';') {
                Run.fault(text, 2, 7);
            } else {
                Run.fault(text, isDigit(c) || isSign(c) ? 2 : 1, 6);
            }
        }
    }

    /** Terms 1: "no letter directly behind an N (.. 1 at its first byte)": each byte behind an N; each letter. */
    static void t1EachByteBehindAnN() {
        for (int c = 0; c < 256; c++) {
            String text = "pond p 5" + (char) c + ";";
            if (isDigit(c) || isBlank(c)) {
                Run.fault(text, 0, -1);
            } else if (c == ';') {
                Run.fault(text, 2, 9);
            } else if (isLetter(c)) {
                Run.fault(text, 1, 7);
            } else {
                Run.fault(text, isSign(c) ? 2 : 1, 8);
            }
        }
        Run.fault("pond p 5 a;", 2, 9);
        Run.fault(CLAIM + "1or 1;", 1, 28);
        Run.fault(CLAIM + "1 or 1;", 0, -1);
        Run.fault("pond p 9999a;", 1, 7);
        Run.fault("pond p 99999a;", 1, 7);
    }

    /** Terms 1: "blanks (32, 10) part them or not": none, one of each, many. */
    static void t1BlanksPartOrNot() {
        String[] texts = {"start a;pond p5;dusk d;way a to p in1;way p to d in2;claim c at d(a)and(a)or not(a=1);draw7;",
            "start a ; pond p 5 ; dusk d ; way a to p in 1 ; way p to d in 2 ; claim c at d ( a ) and ( a ) or not ( a = 1 ) ; draw 7 ;",
            "start\na;\npond\np\n5;\ndusk\nd;\nway\na\nto\np\nin\n1;\nway\np\nto\nd\nin\n2;\nclaim\nc\nat\nd\n(a)and(a)or\nnot(a=1);\ndraw\n7\n;\n",
            "  start \n a  ;pond  p \n\n 5;dusk d;way a   to p   in  1;way p to d in 2;claim c at d (a)  and  (a) or  not  (a  =  1);draw 7;  "};
        for (String text : texts) {
            Run x = Run.on(text);
            x.is(x.about(0), 3);
            x.is(x.about(2), 2);
            x.is(x.about(12), 7);
            x.is(x.about(5), 7);
            x.is(x.tower(1, 1), 5);
            x.is(x.way(1, 2), 2);
            x.is(x.says(0), 1);
        }
        Run.fault("sta rt a;", 2, 0);
        Run.fault("st\nart a;", 2, 0);
        Run.fault("draw 1 2;", 2, 7);
        Run.fault("start a b;", 2, 8);
    }

    /** Terms 1: "each is as long as can be". */
    static void t1AsLongAsCanBe() {
        Run.fault("starta;", 2, 0);
        Run.fault("join a;way ato a in 1;", 5, 11);
        Run.fault("join a;way a toa in 1;", 2, 13);
        Run.fault("draw 1000;", 4, 5);
        Run.fault("pond p 100;", 4, 7);
        Run.fault(CLAIM + "nots;", 5, 28);
        Run.fault(CLAIM + "s ors;", 2, 30);
        Run.fault(CLAIM + "s or s;", 0, -1);
        Run x = Run.on("join starts;join nota;join ins;join ways;");
        x.is(x.about(0), 4);
        x.is(x.about(1), 0);
    }

    /** Terms 1: "Words that stand for themselves here are no NAMES": each of them, wherever a NAME is wanted. */
    static void t1WordsAreNoNames() {
        for (String word : WORDS) {
            for (String sort : SORTS) {
                Run.fault(sort + " " + word + (hasN(sort) ? " 5;" : ";"), 2, sort.length() + 1);
            }
            Run.fault("dusk d;claim " + word + " at d 1;", 2, 13);
            Run.fault("dusk d;claim c at " + word + " 1;", 2, 18);
            Run.fault("join a;way " + word + " to a in 1;", 2, 11);
            Run.fault("join a;way a to " + word + " in 1;", 2, 16);
            Run.fault(CLAIM + "1 + " + word + ";", 2, 32);
        }
    }

    /** Terms 1: "At most 10 TOWERS (of all sorts ..)": ten of each sort but STARTS; an eleventh of each sort (2 at its first word). */
    static void t1TenTowers() {
        for (String sort : SORTS) {
            StringBuilder text = new StringBuilder();
            for (int i = 0; i < 10; i++) {
                text.append(tower(sort.equals("start") && i >= 3 ? "join" : sort, "" + (char) ('a' + i)));
            }
            Run x = Run.on(text.toString());
            x.is(x.about(0), 10);
            x.is(x.tower(9, 1), hasN(sort) ? 5 : 0);
            x.is(x.tower(10, 0), -1);
            for (String eleventh : SORTS) {
                Run.fault(text + tower(eleventh, "z"), 2, text.length());
            }
            Run.fault(text + "join", 2, text.length());
            Run.fault(text + "join a;", 2, text.length());
            Run.fault(text + "draw 5;", 0, -1);
        }
    }

    /** Terms 1: ".. each NAME once": of whatever sorts; 3 at the NAME. */
    static void t1EachNameOnce() {
        for (String sort : SORTS) {
            for (String other : SORTS) {
                String text = tower(sort, "a");
                Run.fault(text + tower(other, "a"), 3, text.length() + other.length() + 1);
                Run.fault(text + tower(other, "b"), 0, -1);
            }
        }
    }

    /** Terms 1: "N 1 .. 99" of TOWERS; 4 "a number that can't be". */
    static void t1NOfTowers() {
        for (String sort : new String[] {"pond", "fox", "bread", "wind"}) {
            int at = sort.length() + 3;
            Run.fault(sort + " p 0;", 4, at);
            Run.fault(sort + " p 0000;", 4, at);
            Run.fault(sort + " p 100;", 4, at);
            Run.fault(sort + " p 9999;", 4, at);
            for (int n : new int[] {1, 99}) {
                Run x = Run.on(sort + " p " + n + ";");
                x.is(x.tower(0, 1), n);
            }
        }
    }

    /** Terms 1: "3 of them STARTS"; a fourth: 2 at its first word. */
    static void t1ThreeStarts() {
        Run x = Run.on("start a;start b;start c;");
        x.is(x.about(1), 3);
        Run.fault("start a;start b;start c;start d;", 2, 24);
        Run.fault("start a;join j;start b;dusk k;start c;join l;start d;", 2, 45);
        Run.fault("start a;start b;start c;join d;", 0, -1);
        Run.fault("start a;start b;start c;start 5", 2, 24);
    }

    private static String waysOfSplits(int ways) {
        StringBuilder text = new StringBuilder();
        for (int i = 0; i < 9; i++) {
            text.append("split ").append((char) ('a' + i)).append(";");
        }
        for (int i = 0; i < ways; i++) {
            text.append("way ").append((char) ('a' + i / 2)).append(" to a in 1;");
        }
        return text.toString();
    }

    /** Terms 1: "16 WAYS"; a seventeenth: 2 at its first word. */
    static void t1SixteenWays() {
        Run x = Run.on(waysOfSplits(16));
        x.is(x.about(2), 16);
        x.is(x.way(15, 0), 7);
        x.is(x.way(16, 0), -1);
        String full = waysOfSplits(16);
        Run.fault(full + "way i to a in 1;", 2, full.length());
        Run.fault(full + "way", 2, full.length());
        Run.fault(full + "way x to y in 0;", 2, full.length());
        Run y = Run.on(waysOfSplits(15) + "way h to a in 1;");
        y.is(y.about(2), 16);
        Run z = Run.on("split a;");
        z.is(z.about(2), 0);
    }

    /** Terms 1: WAYS "from a TOWER told ahead .. to a TOWER told ahead": else 5 at the NAME; from one to itself is one. */
    static void t1WaysOfTowersToldAhead() {
        Run.fault("join a;way a to a in 1;", 0, -1);
        Run.fault("join b;way a to b in 1;", 5, 11);
        Run.fault("join b;way a to b in 1;join a;", 5, 11);
        Run.fault("join a;way a to b in 1;", 5, 16);
        Run.fault("join a;way a to b in 1;join b;", 5, 16);
        Run.fault("way a to a in 1;", 5, 4);
        Run.fault("join aa;way a to aa in 1;", 5, 12);
        Run.fault("dusk d;claim c at d 1;join j;way c to j in 1;", 5, 33);
        Run.fault("dusk d;claim c at d 1;join j;way j to c in 1;", 5, 38);
        for (String sort : SORTS) {
            Run.fault("join j;" + tower(sort, "a") + "way j to a in 1;", 0, -1);
        }
    }

    /** Terms 1: "from a TOWER .. that is no dusk, two from a split, an odd, one from all others"; one too many: 6 at that NAME. */
    static void t1WaysFromEachSort() {
        int[] most = {1, 1, 2, 2, 0, 1, 1, 1, 1};
        for (int sort = 0; sort < 9; sort++) {
            StringBuilder text = new StringBuilder("join b;" + tower(SORTS[sort], "a"));
            for (int i = 0; i < most[sort]; i++) {
                text.append("way a to b in ").append(i + 1).append(";");
            }
            Run x = Run.on(text.toString());
            x.is(x.about(2), most[sort]);
            Run.fault(text + "way a to b in 1;", 6, text.length() + 4);
            Run.fault(text + "way b to a in 1;way a to a in 1;", 6, text.length() + 20);
        }
    }

    /** Terms 1: WAYS of "1 .. 9 BEATS"; 4 "a number that can't be". */
    static void t1WaysOf1To9Beats() {
        Run.fault("join a;way a to a in 0;", 4, 21);
        Run.fault("join a;way a to a in 10;", 4, 21);
        Run.fault("join a;way a to a in 9999;", 4, 21);
        for (int beats = 1; beats <= 9; beats++) {
            Run x = Run.on("join a;way a to a in " + beats + ";");
            x.is(x.way(0, 2), beats);
        }
    }

    private static String claims(int many) {
        StringBuilder text = new StringBuilder("dusk d;");
        for (int i = 0; i < many; i++) {
            text.append("claim ").append((char) ('a' + i)).append(" at d ").append(i).append(";");
        }
        return text.toString();
    }

    /** Terms 1: "6 CLAIMS"; a seventh: 2 at its first word. */
    static void t1SixClaims() {
        Run x = Run.on(claims(6));
        x.is(x.about(3), 6);
        x.is(x.says(5), 5);
        Run.fault(claims(6) + "claim g at d 1;", 2, claims(6).length());
        Run.fault(claims(6) + "claim", 2, claims(6).length());
        Run.fault(claims(6) + "claim a at x 1;", 2, claims(6).length());
        Run y = Run.on(claims(0));
        y.is(y.about(3), 0);
    }

    /** Terms 1: CLAIMS "of their own NAMES": once among CLAIMS (3 at the NAME), but as a TOWER's. */
    static void t1ClaimsOfTheirOwnNames() {
        Run.fault("dusk d;claim d at d 1;", 0, -1);
        Run.fault("start s;dusk d;claim s at d s;", 0, -1);
        Run.fault("dusk d;claim c at d 1;join c;", 0, -1);
        Run.fault("dusk d;claim c at d 1;claim c at d 1;", 3, 28);
        Run.fault("dusk d;claim c at d 1;claim e at d 1;claim c at d 1;", 3, 43);
        Run.fault("dusk d;claim c at d 1;claim cc at d 1;", 0, -1);
    }

    /** Terms 1: CLAIMS "at a dusk told ahead": of another sort 6 (each), told later or not at all 5, at that NAME. */
    static void t1ClaimsAtADusk() {
        for (String sort : SORTS) {
            String text = tower(sort, "a");
            Run.fault(text + "claim c at a 1;", sort.equals("dusk") ? 0 : 6, sort.equals("dusk") ? -1 : text.length() + 11);
        }
        Run.fault("claim c at d 1;dusk d;", 5, 11);
        Run.fault("dusk e;claim c at d 1;dusk d;", 5, 18);
        Run.fault("dusk d;claim c at d 1;claim e at c 1;", 5, 33);
    }

    /** Terms 1: "NAMES in e are of STARTS told ahead": of another sort, told later, not told, of a CLAIM: 5 at that NAME. */
    static void t1NamesInAFormula() {
        for (String sort : SORTS) {
            String text = "dusk d;" + tower(sort, "a") + "claim c at d ";
            Run.fault(text + "a;", sort.equals("start") ? 0 : 5, sort.equals("start") ? -1 : text.length());
            Run.fault(text + "1 + (a);", sort.equals("start") ? 0 : 5, sort.equals("start") ? -1 : text.length() + 5);
        }
        Run.fault("dusk d;claim c at d s;start s;", 5, 20);
        Run.fault("dusk d;claim c at d s;", 5, 20);
        Run.fault("dusk d;claim c at d 1;claim e at d c;", 5, 35);
        Run.fault("dusk d;claim c at d c;", 5, 20);
        Run.fault("start s;start t;start u;dusk d;claim c at d s + t + u;", 0, -1);
    }

    /** Terms 1: TOWERS, STARTS, WAYS, CLAIMS are "numbered as told", from 0 on. */
    static void t1NumberedAsTold() {
        Run x = Run.on("dusk d;start b;claim z at d b*2;join j;way b to j in 2;start a;way a to j in 3;claim a at d b-a;way j to d in 1;");
        int[] sorts = {4, 0, 1, 0};
        for (int i = 0; i < 4; i++) {
            x.is(x.tower(i, 0), sorts[i]);
        }
        int[][] ways = {{1, 2, 2}, {3, 2, 3}, {2, 0, 1}};
        for (int i = 0; i < 3; i++) {
            for (int what = 0; what < 3; what++) {
                x.is(x.way(i, what), ways[i][what]);
            }
        }
        x.is(x.row(0, 7), 0);
        x.is(x.row(1, 5), 0);
        x.is(x.says(0), 14);
        x.is(x.says(1), 2);
    }

    /** Terms 1: "draw (0 .. 999; 0) once": 0 without; 1000 can't be (4); a second one can't stand there (2). */
    static void t1DrawOnce() {
        for (int n : new int[] {0, 1, 998, 999}) {
            Run x = Run.on("draw " + n + ";");
            x.is(x.about(5), n);
        }
        Run none = Run.on("join j;");
        none.is(none.about(5), 0);
        Run last = Run.on("join j;way j to j in 1;draw 3;");
        last.is(last.about(5), 3);
        Run.fault("draw 1000;", 4, 5);
        Run.fault("draw 9999;", 4, 5);
        Run.fault("draw 0;draw 0;", 2, 7);
        Run.fault("draw 0;join j;draw 0;", 2, 14);
        Run.fault("draw 0;draw", 2, 7);
        Run.fault("draw 0;draw 1000;", 2, 7);
    }

    private static String units(int many) {
        return "1" + "+1".repeat(many - 1);
    }

    /** Terms 1: "90 units in all"; a unit too many: 2 at its first TOKEN. */
    static void t1NinetyUnits() {
        String text = "start s;dusk d;claim a at d " + units(30) + ";claim b at d " + units(30) + ";claim c at d " + units(29) + ";";
        Run x = Run.on(text + "claim e at d 1;");
        x.is(x.about(12), 90);
        Run.fault(text + "claim e at d 1+1;", 2, text.length() + 15);
        Run.fault(text + "claim e at d 1;claim f at d 1;", 2, text.length() + 28);
        Run.fault(text + "claim e at d 1;claim f at d s;", 2, text.length() + 28);
        Run.fault(text + "claim e at d 1;claim f at d x;", 2, text.length() + 28);
        Run.fault(text + "claim e at d 1;claim f at d (1);", 2, text.length() + 28);
        Run.fault(text + "claim e at d 1;claim f at d not 1;", 2, text.length() + 32);
        Run.fault(text + "claim e at d (1);", 2, text.length() + 14);
        Run.fault(text + "claim e at d 1;claim f at d !", 1, text.length() + 28);
        Run.fault(text + "claim e at d 1;claim f at x 1;", 5, text.length() + 26);
        Run.fault(text + "claim e at d 1;join j;", 0, -1);
        // The next net has units of its own.
        x.type(text);
        x.is(x.net(), 2);
        x.is(x.about(12), 89);
        Run none = Run.on("start s;dusk d;");
        none.is(none.about(12), 0);
    }

    /** Terms 1: "30 in one e"; a unit too many: 2 at its first TOKEN. */
    static void t1ThirtyUnitsInOne() {
        Run x = Run.on(CLAIM + units(30) + ";");
        x.is(x.about(12), 30);
        x.is(x.says(0), 30);
        int at = CLAIM.length() + units(30).length();
        Run.fault(CLAIM + units(31) + ";", 2, at + 1);
        Run.fault(CLAIM + units(30) + "+x;", 2, at + 1);
        Run.fault(CLAIM + units(30) + "+(1);", 2, at + 1);
        Run.fault(CLAIM + units(30) + " and not 1;", 2, at + 9);
        Run.fault(CLAIM + units(30) + "+;", 2, at + 1);
        Run.fault(CLAIM + units(30) + " 1;", 2, at + 1);
        // A unit ( e ) is one beside those in it.
        Run y = Run.on(CLAIM + "(" + units(29) + ");");
        y.is(y.about(12), 30);
        Run.fault(CLAIM + "(" + units(30) + ");", 2, at);
        Run.fault(CLAIM + "(" + units(29) + ")+1;", 2, CLAIM.length() + units(29).length() + 3);
        Run.fault(CLAIM + units(30) + ";claim e at d " + units(30) + ";", 0, -1);
    }

    /** Terms 1: "a unit ( e ), or a one behind not, within 6 others at most": 2 "what is within 7 others: at its first TOKEN, or the not". */
    static void t1Within6Others() {
        Run.fault(CLAIM + "(".repeat(7) + "s" + ")".repeat(7) + ";", 0, -1);
        Run.fault(CLAIM + "(".repeat(8) + "s" + ")".repeat(8) + ";", 2, 35);
        Run.fault(CLAIM + "not ".repeat(7) + "s;", 0, -1);
        Run.fault(CLAIM + "not ".repeat(8) + "s;", 2, 56);
        Run.fault(CLAIM + "not ".repeat(7) + "(s);", 2, 56);
        Run.fault(CLAIM + "not ".repeat(6) + "(s);", 0, -1);
        Run.fault(CLAIM + "(".repeat(7) + "not s" + ")".repeat(7) + ";", 2, 35);
        Run.fault(CLAIM + "(".repeat(6) + "not s" + ")".repeat(6) + ";", 0, -1);
        Run.fault(CLAIM + "(".repeat(6) + "not (s)" + ")".repeat(6) + ";", 2, 38);
        Run.fault(CLAIM + "not (not (not (not s)));", 0, -1);
        Run.fault(CLAIM + "not (not (not (not not s)));", 2, 47);
        Run.fault(CLAIM + "not (not (not (not (s))));", 2, 47);
        Run.fault(CLAIM + "(1+(1+(1+(1+(1+(1+(1)))))));", 0, -1);
        Run.fault(CLAIM + "(1+(1+(1+(1+(1+(1+(1+(1))))))));", 2, 49);
        // Side by side they are not within one another.
        Run.fault(CLAIM + "(1)+(1)+(1)+(1)+(1)+(1)+(1)+(1)+(1);", 0, -1);
        Run.fault(CLAIM + "(((((((s)))))))+(((((((s)))))));", 0, -1);
        Run.fault(CLAIM + "not 1 and not 1 and not 1 and not 1 and not 1 and not 1 and not 1 and not 1;", 0, -1);
        Run.fault(CLAIM + "not not not not not not not s or not not not not not not not s;", 0, -1);
        Run x = Run.on(CLAIM + "(".repeat(7) + "s" + ")".repeat(7) + ";claim e at d " + "not ".repeat(7) + "s;");
        x.is(x.row(0, 5), 0);
        x.is(x.says(0), 5);
        x.is(x.says(1), 0);
    }

    /** Terms 1: "FAULTS, the first by its place": of two the one ahead counts, whatever its number is. */
    static void t1FirstByItsPlace() {
        // 6, 5, 4, 3, 2, 1 ahead of each other one.
        String ahead = "dusk d;join j;";
        String[] bad = {"way d to j in 1;", "way x to j in 1;", "draw 1000;", "join j;", "to;", "!"};
        int[] place = {4, 4, 5, 5, 0, 0};
        for (int i = 0; i < 6; i++) {
            for (int k = 0; k < 6; k++) {
                Run.fault(ahead + bad[i] + bad[k], 6 - i, ahead.length() + place[i]);
            }
        }
        Run.fault("join j;way j to x in 0 !", 5, 16);
        Run.fault("join j;way j to j in 0 !", 4, 21);
        Run.fault("join j;way j to j in 1 !", 1, 23);
        Run.fault("join j;way j to j in 1 2", 2, 23);
    }

    /** Terms 1: FAULTS' places are "bytes from 0; the end: the text's length". */
    static void t1PlacesFrom0ToTheEnd() {
        Run.fault("!", 1, 0);
        Run.fault(" !", 1, 1);
        Run.fault("\n\n!", 1, 2);
        Run.fault("start", 2, 5);
        Run.fault("start ", 2, 6);
        Run.fault("start\n\n\n", 2, 8);
        Run.fault("start a", 2, 7);
        Run.fault("start a" + " ".repeat(1593), 2, 1600);
        Run.fault("start a;" + " ".repeat(1591) + "!", 1, 1599);
        Run.fault("start a;" + " ".repeat(1591) + "a", 2, 1599);
        Run.fault(" ".repeat(1595) + "start", 2, 1600);
    }

    /** Terms 1: FAULTS "at one place the least": 1 ahead of all, 2 ahead of 3 to 6. */
    static void t1AtOnePlaceTheLeast() {
        // 1 where a NAME told already, an unknown one, a number that can't be, a sign might have stood.
        Run.fault("join j;join jjjjjjjjj;", 1, 12);
        Run.fault("join j;way jjjjjjjjj to j in 1;", 1, 11);
        Run.fault("pond p 10000;", 1, 7);
        Run.fault("pond p 0a;", 1, 7);
        Run.fault("join j!", 1, 6);
        Run.fault("aaaaaaaaa", 1, 0);
        // 2 where another fault might have stood: a unit too many of an unknown NAME, the end where a number is wanted.
        Run.fault(CLAIM + units(30) + "+x;", 2, CLAIM.length() + units(30).length() + 1);
        Run.fault("pond p", 2, 6);
        // 5 ahead of 6: a NAME that no TOWER has is of no sort.
        Run.fault("claim c at d 1;", 5, 11);
    }

    /** Terms 1: FAULT 1 "no TOKEN", wherever a line stands. */
    static void t1Fault1() {
        String[] tokens = "start a ; dusk d ; pond p 5 ; way a to d in 1 ; claim c at d ( a + 1 ) < 5 ; draw 7 ;".split(" ");
        StringBuilder text = new StringBuilder();
        for (String token : tokens) {
            Run.fault(text + "#" + token, 1, text.length());
            Run.fault(text + "123456", 1, text.length());
            Run.fault(text + "abcdefghi", 1, text.length());
            text.append(token).append(" ");
        }
        Run.fault(text.toString(), 0, -1);
        Run.fault(text + "#", 1, text.length());
    }

    /** Terms 1: FAULT 3 "a NAME told already (of TOWERS; of CLAIMS)": the first, the last of all. */
    static void t1Fault3() {
        StringBuilder text = new StringBuilder();
        for (int i = 0; i < 9; i++) {
            text.append("dusk ").append((char) ('a' + i)).append(";");
        }
        Run.fault(text + "dusk a;", 3, 68);
        Run.fault(text + "dusk i;", 3, 68);
        Run.fault(text + "dusk j;", 0, -1);
        Run.fault("join j;join j 5", 3, 12);
        Run.fault("join j;join j", 3, 12);
        String claims = claims(5);
        Run.fault(claims + "claim a at d 1;", 3, claims.length() + 6);
        Run.fault(claims + "claim e at d 1;", 3, claims.length() + 6);
        Run.fault(claims + "claim f at d 1;", 0, -1);
    }

    // ==== Promises 1 to 5 ====

    /** The constants: "NONE = -1: There is none." */
    static void p01None() {
        Check.due("NONE", GeeseSums.NONE, -1);
    }

    /** Promise 1: "An empty NET": what each call answers then. */
    static void p01NewObject() {
        Run x = new Run();
        for (int what = 0; what <= 13; what++) {
            x.is(x.about(what), 0);
        }
        x.is(x.fault(0), 0);
        x.is(x.fault(1), -1);
        x.geeseAre(0, 0, 0, 0, 0, 0);
        x.is(x.begin(0, 1), -1);
        x.is(x.gust(), -1);
        x.is(x.undo(), false);
        x.is(x.redo(), false);
        x.is(x.row(0, 0), -1);
        x.is(x.reckon(0, 1), -1);
        x.is(x.still(), 0);
        x.is(x.says(0), 0);
        x.is(x.wrong(0, 0, 1), -1);
        x.is(x.against(0, 0, 1), -1);
        x.is(x.mend(0, 0, 1), -1);
        x.is(x.loss(0, 1, 0, 1), -1);
        x.is(x.blind(0, 1), -1);
        x.is(x.adds(0, 0, 1, 1, 0), -1);
        x.is(x.paths(0, 0, 0), -1);
        x.is(x.meet(0, 0, 0), -1);
        x.is(x.spread(0, 0), -1);
        x.is(x.ring(), 0);
        x.is(x.hush(), 0);
        x.is(x.chain(), 0);
        x.is(x.lies(0), -1);
        x.is(x.sight(0, 1, 0), -1);
        x.is(x.untell(0), false);
        x.is(x.begun(0, 0), 1);
        x.is(x.sure(0, 0, 0), -1);
        x.is(x.back(0), -1);
        x.is(x.later(0), 0);
        x.is(x.end(0), 0);
        x.is(x.net(), 0);
    }

    /** "An object is used for at most 512 calls": the 512th is answered as any. */
    static void p01The512thCall() {
        Run x = Run.on("start a;dusk d;way a to d in 1;");
        while (x.calls() < 509) {
            x.is(x.about(0), 2);
        }
        x.is(x.begin(0, 7), 7);
        x.is(x.beats(2), 2);
        x.is(x.tower(1, 2), 7);
        x = new Run();
        while (x.calls() < 511) {
            x.is(x.end(0), 0);
        }
        x.is(x.feed(0, 0, 0, 0, 0), 20);
    }

    /** Promise 2: "Twenty bytes come behind those on the TAPE": 20 .. 1,600; "NONE, and nothing comes, if there would be more than 1,600". */
    static void p02Feed() {
        Run x = new Run();
        for (int i = 1; i <= 80; i++) {
            x.is(x.feed(0x20202020, 0x20202020, 0x20202020, 0x20202020, 0x20202020), 20 * i);
        }
        x.is(x.feed(0x20202020, 0x20202020, 0x20202020, 0x20202020, 0x20202021), -1);
        x.is(x.about(11), 1600);
        x.is(x.end(1581), 1581);
        x.is(x.feed(0x21212121, 0x21212121, 0x21212121, 0x21212121, 0x21212121), -1);
        x.is(x.about(11), 1581);
        x.is(x.end(1580), 1580);
        x.is(x.feed(0x20202020, 0x20202020, 0x20202020, 0x20202020, 0x20202020), 1600);
        // Nothing came of what was refused: all are blanks.
        x.is(x.net(), 0);
        x.is(x.fault(0), 0);
        // On the empty tape there is room again; a text goes on behind what is there.
        x.is(x.feed(0x73746172, 0x74206120, 0x20202020, 0x20202020, 0x20202020), 20);
        x.is(x.end(7), 7);
        x.is(x.feed(0x3b647573, 0x6b206420, 0x20202020, 0x20202020, 0x2020203b), 27);
        x.is(x.net(), 2);
    }

    /** Promise 2: "of each number the highest first": each byte of each number, 0 .. 255, has its place. */
    static void p02HighestByteFirst() {
        for (int at = 0; at < 20; at++) {
            int[] w = {0x20202020, 0x20202020, 0x20202020, 0x20202020, 0x20202020};
            for (int c : new int[] {0, 127, 128, 255}) {
                int shift = 24 - 8 * (at % 4);
                w[at / 4] = 0x20202020 & ~(255 << shift) | c << shift;
                Run x = new Run();
                x.is(x.feed(w[0], w[1], w[2], w[3], w[4]), 20);
                x.is(x.net(), -1);
                x.is(x.fault(0), 1);
                x.is(x.fault(1), at);
            }
        }
        Run x = new Run();
        x.is(x.feed(-1, Integer.MIN_VALUE, Integer.MAX_VALUE, 0, 1), 20);
        x.is(x.net(), -1);
        x.is(x.fault(1), 0);
    }

    /** Promise 3: "The TAPE has its first n bytes: n; NONE, doing nothing, if it has not so many, or n is below 0". */
    static void p03End() {
        Run x = new Run();
        x.is(x.end(0), 0);
        x.is(x.end(1), -1);
        x.is(x.end(-1), -1);
        x.type("start a;dusk d;      ");
        x.is(x.about(11), 21);
        x.is(x.end(22), -1);
        x.is(x.end(-1), -1);
        x.is(x.end(Integer.MIN_VALUE), -1);
        x.is(x.end(Integer.MAX_VALUE), -1);
        x.is(x.about(11), 21);
        x.is(x.end(21), 21);
        x.is(x.end(8), 8);
        x.is(x.end(9), -1);
        x.is(x.about(11), 8);
        x.is(x.net(), 1);
        x.is(x.end(1), -1);
        x.type("!");
        x.is(x.end(0), 0);
        x.is(x.net(), 0);
        // What was cut away does not come back.
        x.type("dusk d;claim c at d 1;");
        x.is(x.end(7), 7);
        x.is(x.feed(0x20202020, 0x20202020, 0x20202020, 0x20202020, 0x20202020), 27);
        x.is(x.net(), 1);
        x.is(x.about(3), 0);
        x.type("!".repeat(1600));
        x.is(x.end(1600), 1600);
        x.is(x.end(1601), -1);
        x.is(x.end(0), 0);
    }

    /** Promise 4: "how many TOWERS": 0 .. 10. */
    static void p04HowManyTowers() {
        StringBuilder text = new StringBuilder();
        for (int i = 0; i <= 10; i++) {
            Run x = new Run();
            x.type(text.toString());
            x.is(x.net(), i);
            x.is(x.about(0), i);
            text.append("dusk ").append((char) ('a' + i)).append(";");
        }
    }

    /**
     * Promise 4: "an empty sky, no ACTS are kept, the ROW is 0, PAIRS, SIGHTS are none, nothing lies there, BOXES are empty then; the TIME
     * stays", and "The TAPE (empty then)".
     */
    static void p04ANewNet() {
        Run x = Run.filled();
        for (int what : new int[] {4, 5, 6, 7, 8, 9, 10, 12, 13}) {
            Check.due("filled: about(" + what + ")", x.about(what) > 0, true);
        }
        x.type("start q;start r;dusk d;way q to d in 3;claim c at d q*1000+r;");
        x.is(x.net(), 3);
        int[] about = {3, 2, 1, 1, 0, 0, 0, 0, 0, 0, 4, 0, 3, 0};
        for (int what = 0; what < about.length; what++) {
            x.is(x.about(what), about[what]);
        }
        x.geeseAre(0, 0, 0, 0, 0, 0);
        for (int tower = 0; tower < 3; tower++) {
            x.is(x.tower(tower, 2), 0);
            x.is(x.tower(tower, 3), 0);
        }
        for (int left = 1; left <= 12; left++) {
            x.is(x.flock(0, left), 0);
        }
        x.is(x.way(1, 0), -1);
        x.is(x.says(0), 0);
        x.is(x.says(1), 0);
        x.is(x.undo(), false);
        x.is(x.redo(), false);
        x.is(x.lies(0), -1);
        for (int box = 0; box < 3; box++) {
            x.is(x.back(box), -1);
        }
        x.is(x.begun(9, 100000), 100);
        x.is(x.untell(0), false);
        x.is(x.chain(), 0);
        x.is(x.row(0, 1), 0);
        x.is(x.row(1, 1), 0);
    }

    /** Promise 4: "an empty sky": geese of each kind, in each place, on the way at each distance are gone. */
    static void p04AnEmptySky() {
        String text = "start a;pond p 1;bread k 9;fox f 2;wind w 5;dusk d;split s;way k to f in 9;way f to s in 9;way p to k in 1;way a to p in 1;"
            + "way s to w in 1;way s to d in 1;way w to d in 1;";
        for (int beats = 30; beats < 46; beats++) {
            Run x = Run.on(text);
            x.begin(0, 999);
            x.beats(beats);
            x.begin(0, 7);
            for (int what = 0; what < 6; what++) {
                Check.due("geese(" + what + ") behind " + beats + " beats", x.geese(what) > 0, true);
            }
            x.type(text);
            x.is(x.net(), 7);
            x.geeseAre(0, 0, 0, 0, 0, 0);
            for (int way = 0; way < 7; way++) {
                x.is(x.way(way, 3), 0);
            }
            for (int left = 1; left <= 12; left++) {
                x.is(x.flock(0, left), 0);
            }
            x.is(x.beats(60), 60);
            x.geeseAre(0, 0, 0, 0, 0, 0);
            for (int tower = 0; tower < 7; tower++) {
                x.is(x.tower(tower, 2), 0);
                x.is(x.tower(tower, 3), 0);
            }
        }
    }

    /** Promise 4: "BOXES are empty then": all three. */
    static void p04BoxesAreEmpty() {
        Run x = new Run();
        for (int box = 0; box < 3; box++) {
            x.beats(1);
            x.is(x.image(box), box + 1);
        }
        for (int box = 0; box < 3; box++) {
            x.is(x.back(box), box + 1);
        }
        x.net();
        for (int box = 0; box < 3; box++) {
            x.is(x.back(box), -1);
        }
        x.is(x.about(4), 0);
    }

    /** Promise 4: of nets in turn, with faulty ones between them, each has what it tells and nothing of those ahead. */
    static void p04NetsInTurn() {
        String[] texts = {"start a;start b;start c;split s;dusk d;way a to s in 1;way b to s in 1;way s to d in 2;way s to d in 3;claim c at d a+b;"
            + "claim e at d 5;draw 7;", "dusk d;claim c at d 9;claim e at d 8;claim f at d 7;", "", "start c;join s;dusk e;way c to s in 4;way s to e in 5;"
            + "claim e at e c*2;", "join a;way a to a in 9;draw 999;", "start z;"};
        int[][] about = {{5, 3, 4, 2, 0, 7}, {1, 0, 0, 3, 0, 0}, {0, 0, 0, 0, 0, 0}, {3, 1, 2, 1, 0, 0}, {1, 0, 1, 0, 0, 999}, {1, 1, 0, 0, 0, 0}};
        int[] units = {3, 3, 0, 2, 0, 0};
        int[] says = {0, 9, 0, 0, 0, 0};
        Run x = new Run();
        for (int round = 0; round < 3; round++) {
            for (int i = 0; i < texts.length; i++) {
                if (round > 0) {
                    x.type(texts[(i + 2 * round) % texts.length] + "start start");
                    x.is(x.net(), -1);
                }
                x.type(texts[i]);
                x.is(x.net(), about[i][0]);
                for (int what = 0; what < 6; what++) {
                    x.is(x.about(what), about[i][what]);
                }
                x.is(x.about(12), units[i]);
                x.is(x.says(0), says[i]);
                x.is(x.way(about[i][2], 0), -1);
                x.is(x.row(about[i][1], 1), -1);
            }
        }
    }

    /** Promise 4: the same, if the net is empty, and if it is the same text again. */
    static void p04AnEmptyNetAndTheSameAgain() {
        Run x = Run.filled();
        x.is(x.net(), 0);
        int[] about = {0, 0, 0, 0, 0, 0, 0, 0, 0, 0, 4, 0, 0, 0};
        for (int what = 0; what < about.length; what++) {
            x.is(x.about(what), about[what]);
        }
        x.is(x.tower(0, 0), -1);
        x.is(x.way(0, 0), -1);
        x.is(x.back(1), -1);
        x.is(x.ring(), 0);
        Run y = Run.filled();
        y.type(Run.FILLED);
        y.is(y.net(), 4);
        y.is(y.about(4), 0);
        y.is(y.about(5), 5);
        y.is(y.says(1), 0);
        y.is(y.back(1), -1);
        y.geeseAre(0, 0, 0, 0, 0, 0);
    }

    /** Promise 4: "NONE: a FAULT (the TAPE is empty then, too; all else stays)": each FAULT. */
    static void p04AFaultLeavesAllElse() {
        String[] faulty = {"start q;!", "start q;start", "start q;start q;", "start q;draw 1000;", "start q;way q to r in 1;",
            "start q;dusk e;way q to e in 1;way e to q in 1;", "draw 6;start q;start r;dusk e;way q to e in 1;claim f at e q;to"};
        int[] faults = {1, 2, 3, 4, 5, 6, 2};
        int[] places = {8, 13, 14, 13, 17, 35, 61};
        for (int i = 0; i < faulty.length; i++) {
            Run x = Run.filled();
            x.type(faulty[i]);
            x.is(x.net(), -1);
            x.is(x.about(11), 0);
            x.is(x.fault(0), faults[i]);
            x.is(x.fault(1), places[i]);
            // The latest fault is another one, all else is as if there had been no text.
            Check.due("behind a fault all else", withoutFaults(x).equals(withoutFaults(Run.filled())), true);
        }
    }

    private static String withoutFaults(Run x) {
        StringBuilder all = new StringBuilder();
        for (String one : x.all()) {
            if (!one.startsWith("fault")) {
                all.append(one).append("\n");
            }
        }
        return all.toString();
    }

    /** Promise 5: "what 0: its FAULT (0: without; ahead of any, too), 1: its place (NONE). NONE for another what". */
    static void p05Fault() {
        Run x = new Run();
        x.is(x.fault(0), 0);
        x.is(x.fault(1), -1);
        for (int what : new int[] {-1, 2, Integer.MIN_VALUE, Integer.MAX_VALUE}) {
            x.is(x.fault(what), -1);
        }
        x.type("draw 1000;");
        x.is(x.fault(0), 0);
        x.is(x.net(), -1);
        x.is(x.fault(0), 4);
        x.is(x.fault(1), 5);
        for (int what : new int[] {-1, 2, Integer.MIN_VALUE, Integer.MAX_VALUE}) {
            x.is(x.fault(what), -1);
        }
        // The latest counts: another one, then none.
        x.type("!");
        x.is(x.fault(0), 4);
        x.is(x.net(), -1);
        x.is(x.fault(0), 1);
        x.is(x.fault(1), 0);
        x.is(x.net(), 0);
        x.is(x.fault(0), 0);
        x.is(x.fault(1), -1);
    }
}
