/** Promises 1 to 5: a new object, the tape, the text of a net, its faults. */
public final class TextTest {
    private static final String FULL = "start a;start b;join j;split s;odd o;dusk d;pond p 3;fox f 1;bread k 99;wind w 4;";

    public static void main(String[] args) {
        newObject();
        tape();
        tapeIsFull();
        newNet();
        faultKeepsAll();
        tokens();
        places();
        limits();
        names();
        numbers();
        ways();
        claims();
        depth();
        units();
        lineWords();
        fullTapes();
        leftovers();
        Check.close("TextTest");
    }

    private static void newObject() {
        GeeseSums x = new GeeseSums();
        Check.due("NONE", GeeseSums.NONE, -1);
        for (int what = 0; what <= 13; what++) {
            Check.due("new about(" + what + ")", x.about(what), 0);
        }
        Check.due("new about(14)", x.about(14), -1);
        Check.due("new about(-1)", x.about(-1), -1);
        Check.due("new fault(0)", x.fault(0), 0);
        Check.due("new fault(1)", x.fault(1), -1);
        Check.due("new fault(2)", x.fault(2), -1);
        Check.due("new fault(-1)", x.fault(-1), -1);
        Check.due("new undo", x.undo(), false);
        Check.due("new redo", x.redo(), false);
        Check.due("new still", x.still(), 0);
        Check.due("new lies(0)", x.lies(0), -1);
        Check.due("new back(0)", x.back(0), -1);
        Check.due("new gust", x.gust(), -1);
        Check.due("new ring", x.ring(), 0);
        Check.due("new net()", x.net(), 0);
        Check.due("new begun", x.begun(9, -5), 1);
    }

    private static void tape() {
        GeeseSums x = new GeeseSums();
        Check.due("feed", x.feed(0x73746172, 0x7420613b, 0x20202020, 0x20202020, 0x2020203b), 20);
        Check.due("about(11)", x.about(11), 20);
        Check.due("end(21)", x.end(21), -1);
        Check.due("end(-1)", x.end(-1), -1);
        Check.due("about(11) still", x.about(11), 20);
        Check.due("end(19)", x.end(19), 19);
        Check.due("end(20)", x.end(20), -1);
        Check.due("feed behind", x.feed(-1, -1, -1, -1, -1), 39);
        Check.due("end(19) again", x.end(19), 19);
        Check.due("net()", x.net(), 1);
        Check.due("about(11) empty", x.about(11), 0);
        // The highest byte comes first, and bytes above 127 are bytes as others.
        x.feed(0x20800a20, 0, 0, 0, 0);
        Check.due("a byte of 128", x.net(), -1);
        Check.due("fault(0)", x.fault(0), 1);
        Check.due("fault(1)", x.fault(1), 1);
        Check.due("tape empty behind a fault", x.about(11), 0);
    }

    private static void tapeIsFull() {
        GeeseSums x = new GeeseSums();
        for (int i = 1; i <= 80; i++) {
            Check.due("feed " + i, x.feed(0x20202020, 0x20202020, 0x0a0a0a0a, 0x20202020, 0x20202020), i * 20);
        }
        Check.due("feed 81", x.feed(0, 0, 0, 0, 0), -1);
        Check.due("about(11)", x.about(11), 1600);
        Check.due("end(1581)", x.end(1581), 1581);
        Check.due("19 bytes of room", x.feed(0, 0, 0, 0, 0), -1);
        Check.due("nothing came", x.about(11), 1581);
        Check.due("end(1580)", x.end(1580), 1580);
        Check.due("20 bytes of room", x.feed(0x20202020, 0x20202020, 0x0a0a0a0a, 0x20202020, 0x20202078), 1600);
        Check.due("a NAME as last byte", x.net(), -1);
        Check.due("its fault", x.fault(0), 2);
        Check.due("its place", x.fault(1), 1599);
        Check.due("net() of nothing", x.net(), 0);
        Check.due("fault(0) of nothing", x.fault(0), 0);
        Check.due("fault(1) of nothing", x.fault(1), -1);
    }

    private static void newNet() {
        GeeseSums x = Check.on("start a;dusk d;way a to d in 3;draw 7;");
        Check.due("draw", x.about(5), 7);
        x.begin(0, 5);
        x.beats(2);
        x.gust();
        x.undo();
        x.row(0, 9);
        x.pair(1, 2);
        x.sight(1, 1, 0);
        x.chain();
        x.image(1);
        x.later(5);
        Check.due("lies ahead", x.about(13), 1);
        Check.due("a second net", Check.net(x, "join j;start a;dusk d;way a to d in 3;"), 3);
        Check.due("beats", x.about(4), 0);
        Check.due("seed", x.about(5), 0);
        Check.due("undoable", x.about(6), 0);
        Check.due("redoable", x.about(7), 0);
        Check.due("pairs", x.about(8), 0);
        Check.due("sights", x.about(9), 0);
        Check.due("time stays", x.about(10), 5);
        Check.due("lies", x.about(13), 0);
        Check.due("row", x.row(0, 1), 0);
        Check.due("box", x.back(1), -1);
        for (int what = 0; what < 6; what++) {
            Check.due("geese", x.geese(what), 0);
        }
        Check.due("way", x.way(0, 3), 0);
        Check.due("flocks", x.tower(1, 3), 0);
    }

    private static void faultKeepsAll() {
        GeeseSums x = Check.on("start a;dusk d;way a to d in 3;draw 7;");
        x.begin(0, 5);
        x.beats(2);
        x.beats(1);
        x.undo();
        x.row(0, 9);
        x.pair(1, 2);
        x.sight(1, 1, 0);
        x.chain();
        x.image(1);
        Check.due("faulty", Check.net(x, "start q;dusk q;"), -1);
        Check.due("fault", x.fault(0), 3);
        Check.due("place", x.fault(1), 13);
        Check.due("towers", x.about(0), 2);
        Check.due("ways", x.about(2), 1);
        Check.due("beats", x.about(4), 2);
        Check.due("seed", x.about(5), 7);
        Check.due("undoable", x.about(6), 2);
        Check.due("redoable", x.about(7), 1);
        Check.due("pairs", x.about(8), 1);
        Check.due("sights", x.about(9), 1);
        Check.due("lies", x.about(13), 1);
        Check.due("on the way", x.flock(0, 2), 5);
        Check.due("row", x.row(0, 9), 9);
        Check.due("box", x.back(1), 2);
        Check.due("fault again", x.fault(0), 3);
        Check.due("no fault", x.net(), 0);
        Check.due("fault(0)", x.fault(0), 0);
        Check.due("fault(1)", x.fault(1), -1);
    }

    private static void tokens() {
        Check.fault("", 0, -1);
        Check.fault(" \n ", 0, -1);
        Check.fault("startabcdefgh;", 1, 0);
        Check.fault("start abcdefgh;", 0, -1);
        Check.fault("start abcdefghi;", 1, 6);
        Check.fault("pond p3;", 0, -1);
        Check.fault("pond\np\n3\n;\n", 0, -1);
        Check.fault("pond p 0003;", 0, -1);
        Check.fault("pond p 00003;", 1, 7);
        Check.fault("pond p 3x;", 1, 7);
        Check.fault("pond p 3A;", 1, 8);
        Check.fault("pond p 3 x;", 2, 9);
        Check.fault("start a\t;", 1, 7);
        Check.fault("start A;", 1, 6);
        Check.fault("start a,", 1, 7);
        Check.fault("start a;!", 1, 8);
        Check.fault("start a_b;", 1, 7);
        Check.fault("start a 12345", 1, 8);
        Check.fault("start \u00e9;", 1, 6);
        Check.fault("start a;\r\n", 1, 8);
        Check.fault("dusk d;claim c at d 1<2and 3;", 1, 22);
        Check.fault("dusk d;claim c at d 1<2 and 3;", 0, -1);
        Check.fault("dusk d;claim c at d(1)and(2)or not(3);", 0, -1);
        // An earlier fault comes first, whatever stands behind it.
        Check.fault("start 5 ! ", 2, 6);
    }

    private static void places() {
        Check.fault("start", 2, 5);
        Check.fault("start  ", 2, 7);
        Check.fault("start a", 2, 7);
        Check.fault("start a \n", 2, 9);
        Check.fault(";", 2, 0);
        Check.fault("start a;;", 2, 8);
        Check.fault("a;", 2, 0);
        Check.fault("5;", 2, 0);
        Check.fault("start a 3;", 2, 8);
        Check.fault("pond p;", 2, 6);
        Check.fault("pond p", 2, 6);
        Check.fault("to a;", 2, 0);
        Check.fault("not a;", 2, 0);
        Check.fault("draw;", 2, 4);
        Check.fault("draw 5", 2, 6);
        Check.fault("way;", 2, 3);
        Check.fault("start a;way a;", 2, 13);
        Check.fault("start a;way a in a;", 2, 14);
        Check.fault("start a;way a to;", 2, 16);
        Check.fault("start a;way a to a 3;", 2, 19);
        Check.fault("start a;way a to a in;", 2, 21);
        Check.fault("start a;way a to a in a;", 2, 22);
        Check.fault("start a;way a to a in 3", 2, 23);
        Check.fault("start a;way to to a in 3;", 2, 12);
        Check.fault("start a;way a to in in 3;", 2, 17);
        Check.fault("start a;way 3 to a in 3;", 2, 12);
    }

    private static void limits() {
        Check.fault(FULL, 0, -1);
        Check.fault(FULL + "dusk z;", 2, FULL.length());
        Check.fault(FULL + "start z;", 2, FULL.length());
        Check.fault("start a;start b;start c;start d;", 2, 24);
        Check.fault("start a;start b;start c;start", 2, 24);
        Check.fault("start a;start b;start c;join start;", 2, 29);
        Check.fault("draw 5;draw 5;", 2, 7);
        Check.fault("draw 5;draw", 2, 7);
        StringBuilder text = new StringBuilder("join j;");
        for (int i = 0; i < 8; i++) {
            text.append("split ").append((char) ('a' + i)).append(";");
        }
        for (int i = 0; i < 8; i++) {
            text.append("way ").append((char) ('a' + i)).append(" to j in 1;");
            text.append("way ").append((char) ('a' + i)).append(" to j in 1;");
        }
        Check.fault(text.toString(), 0, -1);
        Check.fault(text + "way", 2, text.length());
        Check.due("ways", Check.on(text.toString()).about(2), 16);
        StringBuilder claims = new StringBuilder("dusk d;");
        for (int i = 0; i < 6; i++) {
            claims.append("claim ").append((char) ('a' + i)).append(" at d 1;");
        }
        Check.fault(claims.toString(), 0, -1);
        Check.fault(claims + "claim a at d 1;", 2, claims.length());
        Check.due("claims", Check.on(claims.toString()).about(3), 6);
    }

    private static void names() {
        Check.fault("start a;join a;", 3, 13);
        Check.fault("start a;pond a 3;", 3, 13);
        Check.fault("start a;start a", 3, 14);
        Check.fault("dusk d;claim d at d 1;", 0, -1);
        Check.fault("dusk d;claim c at d 1;claim c at d 1;", 3, 28);
        Check.fault("dusk d;claim c at d 1;join c;", 0, -1);
        Check.fault("start a;way b to a in 1;", 5, 12);
        Check.fault("start a;way a to b in 1;", 5, 17);
        Check.fault("start a;way a to b in 1;join b;", 5, 17);
        Check.fault("dusk d;claim c at x 1;", 5, 18);
        Check.fault("dusk d;claim c at d x;", 5, 20);
        Check.fault("dusk d;claim c at d d;", 5, 20);
        Check.fault("dusk d;claim c at d s;start s;", 5, 20);
        Check.fault("start s;dusk d;claim c at d s;", 0, -1);
        Check.fault("dusk d;claim c at d c;", 5, 20);
        for (String word : "start join split odd dusk pond fox bread wind way to in claim at draw or and not".split(" ")) {
            Check.fault("join " + word + ";", 2, 5);
            Check.fault("dusk d;claim " + word + " at d 1;", 2, 13);
            Check.fault("dusk d;claim c at d 1 + " + word, 2, 24);
        }
    }

    private static void numbers() {
        for (String sort : new String[] {"pond", "fox", "bread", "wind"}) {
            Check.fault(sort + " p 0;", 4, sort.length() + 3);
            Check.fault(sort + " p 1;", 0, -1);
            Check.fault(sort + " p 99;", 0, -1);
            Check.fault(sort + " p 100;", 4, sort.length() + 3);
            Check.fault(sort + " p 0", 4, sort.length() + 3);
        }
        Check.fault("draw 0;", 0, -1);
        Check.fault("draw 999;", 0, -1);
        Check.fault("draw 1000;", 4, 5);
        Check.fault("join j;way j to j in 0;", 4, 21);
        Check.fault("join j;way j to j in 1;", 0, -1);
        Check.fault("join j;way j to j in 9;", 0, -1);
        Check.fault("join j;way j to j in 10;", 4, 21);
        Check.fault("dusk d;claim c at d 9999;", 0, -1);
        Check.fault("dusk d;claim c at d 0;", 0, -1);
        GeeseSums x = Check.on(FULL);
        int[] sorts = {0, 0, 1, 2, 3, 4, 5, 6, 7, 8};
        int[] sizes = {0, 0, 0, 0, 0, 0, 3, 1, 99, 4};
        for (int i = 0; i < 10; i++) {
            Check.due("sort of " + i, x.tower(i, 0), sorts[i]);
            Check.due("N of " + i, x.tower(i, 1), sizes[i]);
        }
    }

    private static void ways() {
        Check.fault("dusk d;way d to d in 1;", 6, 11);
        Check.fault("join j;way j to j in 1;way j to j in 1;", 6, 27);
        Check.fault("split j;way j to j in 1;way j to j in 1;", 0, -1);
        Check.fault("split j;way j to j in 1;way j to j in 1;way j to j in 1;", 6, 44);
        Check.fault("odd j;way j to j in 1;way j to j in 1;", 0, -1);
        Check.fault("odd j;way j to j in 1;way j to j in 1;way j to j in 1;", 6, 42);
        for (String sort : new String[] {"start a", "join a", "pond a 1", "fox a 1", "bread a 1", "wind a 1"}) {
            String one = sort + ";way a to a in 1;";
            Check.fault(one, 0, -1);
            Check.fault(one + "way a to a in 1;", 6, one.length() + 4);
        }
        GeeseSums x = Check.on("join j;odd o;way o to j in 4;way j to o in 9;way o to o in 1;");
        int[][] want = {{1, 0, 4, 0, -1}, {0, 1, 9, 0, -1}, {1, 1, 1, 0, -1}};
        for (int way = 0; way < 3; way++) {
            for (int what = 0; what < 5; what++) {
                Check.due("way(" + way + ", " + what + ")", x.way(way, what), want[way][what]);
            }
        }
        Check.due("way(3, 0)", x.way(3, 0), -1);
        Check.due("way(-1, 0)", x.way(-1, 0), -1);
        Check.due("way(0, -1)", x.way(0, -1), -1);
    }

    private static void claims() {
        String d = "start s;dusk d;claim c at d ";
        int at = d.length();
        Check.fault("join j;claim c at j 1;", 6, 18);
        Check.fault("start s;claim c at s 1;", 6, 19);
        Check.fault("dusk d;claim c d 1;", 2, 15);
        Check.fault("dusk d;claim c at 1;", 2, 18);
        Check.fault(d + ";", 2, at);
        Check.fault(d + "1", 2, at + 1);
        Check.fault(d + "1 2;", 2, at + 2);
        Check.fault(d + "s s;", 2, at + 2);
        Check.fault(d + "1 < 2 < 3;", 2, at + 6);
        Check.fault(d + "1 = 2 > 3;", 2, at + 6);
        Check.fault(d + "(1 < 2) < 3;", 0, -1);
        Check.fault(d + "1 + not 2;", 2, at + 4);
        Check.fault(d + "1 < not 2;", 2, at + 4);
        Check.fault(d + "1 and not 2;", 0, -1);
        Check.fault(d + "not not 1 or not 2;", 0, -1);
        Check.fault(d + "-1;", 2, at);
        Check.fault(d + "1 - - 1;", 2, at + 4);
        Check.fault(d + "1 +;", 2, at + 3);
        Check.fault(d + "1 or;", 2, at + 4);
        Check.fault(d + "not;", 2, at + 3);
        Check.fault(d + "();", 2, at + 1);
        Check.fault(d + "(1;", 2, at + 2);
        Check.fault(d + "1);", 2, at + 1);
        Check.fault(d + "(1))", 2, at + 3);
        Check.fault(d + "(1", 2, at + 2);
        Check.fault(d + "1 + !", 1, at + 4);
        Check.fault(d + "x + !", 5, at);
    }

    private static void depth() {
        String d = "start s;dusk d;claim c at d ";
        int at = d.length();
        Check.fault(d + "(((((((s)))))));", 0, -1);
        Check.fault(d + "((((((((s))))))));", 2, at + 7);
        Check.fault(d + "not not not not not not not s;", 0, -1);
        Check.fault(d + "not not not not not not not not s;", 2, at + 28);
        Check.fault(d + "not (not (not (not s)));", 0, -1);
        Check.fault(d + "not (not (not (not (s))));", 2, at + 19);
        Check.fault(d + "not (not (not (not not s)));", 2, at + 19);
        Check.fault(d + "(not (not (not (s))));", 0, -1);
        Check.fault(d + "(not (not (not (not s))));", 2, at + 16);
        // What was left counts no more.
        Check.fault(d + "not not not not not not not s and not not not not not not not s;", 0, -1);
        Check.fault(d + "(((((((s))))))) + (((((((s)))))));", 0, -1);
    }

    private static void units() {
        String d = "start s;dusk d;claim c at d ";
        int at = d.length();
        String thirty = "1" + "+1".repeat(29);
        Check.fault(d + thirty + ";", 0, -1);
        Check.fault(d + thirty + "+1;", 2, at + thirty.length() + 1);
        Check.fault(d + thirty + "+s;", 2, at + thirty.length() + 1);
        Check.fault(d + thirty + "+x;", 2, at + thirty.length() + 1);
        Check.fault(d + thirty + "+(1);", 2, at + thirty.length() + 1);
        Check.fault(d + thirty + "+!;", 1, at + thirty.length() + 1);
        String deep = "(1" + "+1".repeat(28) + ")";
        Check.fault(d + deep + ";", 0, -1);
        Check.fault(d + deep + "+1;", 2, at + deep.length() + 1);
        Check.due("units with ( e )", Check.on(d + "(s+1)*(2);").about(12), 5);
        String ninety = d + thirty + ";claim e at d " + thirty + ";claim f at d " + thirty + ";";
        Check.fault(ninety, 0, -1);
        Check.due("ninety units", Check.on(ninety).about(12), 90);
        Check.fault(ninety + "claim g at d 1;", 2, ninety.length() + 13);
        Check.fault(ninety + "claim g at d not 1;", 2, ninety.length() + 17);
        Check.fault(ninety + "join j;", 0, -1);
    }

    private static void lineWords() {
        GeeseSums x = new GeeseSums();
        Check.due("net of ten", Check.net(x, FULL), 10);
        Check.due("starts", x.about(1), 2);
        Check.due("net of none", Check.net(x, "draw 12;"), 0);
        Check.due("seed of none", x.about(5), 12);
    }

    private static void fullTapes() {
        Check.fault(";".repeat(1600), 2, 0);
        Check.fault(" ".repeat(1600), 0, -1);
        Check.fault("start a;" + " ".repeat(1591) + ";", 2, 1599);
        Check.fault("start a;" + " ".repeat(1591) + "5", 2, 1599);
        Check.fault("start a;" + "\n".repeat(1585) + "start b", 2, 1600);
        Check.fault("dusk d;claim c at d " + "+".repeat(1580), 2, 20);
        Check.fault("a".repeat(1600), 1, 0);
        Check.fault("5".repeat(1600), 1, 0);
        String nots = "not ".repeat(7);
        Check.fault("dusk d;claim c at d " + (nots + "1 or ").repeat(29) + nots + "1;", 0, -1);
        Check.due("thirty ones", Check.on("dusk d;claim c at d " + (nots + "1 or ").repeat(29) + nots + "1;").about(12), 30);
    }

    /** What an earlier text or the cut end of this one left counts no more. */
    private static void leftovers() {
        GeeseSums x = Check.on("join j;join k;dusk d;claim c at d 1;claim e at d 1;");
        Check.due("k was told", Check.net(x, "join j;way k to j in 1;"), -1);
        Check.due("fault", x.fault(0), 5);
        Check.due("place", x.fault(1), 11);
        Check.due("c was told", Check.net(x, "dusk d;claim c at d 1;"), 1);
        Check.due("k, told once", Check.net(x, "join k;start j;"), 2);
        Check.type(x, "start a;pond p 3x");
        x.end(16);
        x.net();
        Check.due("the letter was cut", x.fault(0), 2);
        Check.due("place", x.fault(1), 16);
        Check.type(x, "start a;pond p 300000");
        x.end(16);
        x.net();
        Check.due("the digits were cut", x.fault(0), 2);
        Check.due("place", x.fault(1), 16);
        Check.type(x, "join abcdefghijk");
        x.end(13);
        x.net();
        Check.due("the letters were cut", x.fault(0), 2);
        Check.due("place", x.fault(1), 13);
        Check.due("a way of its own", Check.net(x, "split s;way s to s in 1;"), 1);
        x.net();
        Check.due("ways are told anew", Check.net(x, "join s;way s to s in 1;"), 1);
        Check.due("one", x.about(2), 1);
        Check.due("a draw of its own", Check.net(x, "draw 5;"), 0);
        Check.due("a draw again", Check.net(x, "draw 6;"), 0);
        Check.due("seed", x.about(5), 6);
        Check.due("none told", Check.net(x, "dusk d;"), 1);
        Check.due("no seed", x.about(5), 0);
        Check.due("no units", x.about(12), 0);
    }
}
