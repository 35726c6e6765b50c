import java.util.ArrayList;
import java.util.List;

/** A run of calls on one new object, counted: what it answers behind the 512th is free, so no test may ask for more. */
final class Run {
    static final int MOST_CALLS = 512;
    static final String FILLED = "start a;start b;join j;dusk d;way a to j in 1;way b to j in 2;way j to d in 1;"
        + "claim c at d a+b;claim e at d a*1000+b;draw 5;";

    /** Some calls of a run. */
    interface Deed {
        void on(Run x);
    }

    private final GeeseSums x = new GeeseSums();
    private int calls = 0;
    private String last = "";

    /** A run on a net without fault. */
    static Run on(String text) {
        Run x = new Run();
        x.type(text);
        Check.due("net() is without fault of [" + text + "]", x.net() >= 0, true);
        return x;
    }

    /** A run with something in all that there is, but for a text on the tape. */
    static Run filled() {
        Run x = new Run();
        x.type("draw 1000;");
        x.net();
        x.type(FILLED);
        x.net();
        x.later(2);
        x.begin(0, 5);
        x.beats(2);
        x.gust();
        x.begin(1, 3);
        x.image(1);
        x.beats(1);
        x.undo();
        x.row(0, 7);
        x.row(1, 8);
        x.pair(5, 3);
        x.sight(3, 9, 4);
        x.later(1);
        x.sight(3, 1, 0);
        x.later(1);
        x.untell(1);
        x.chain();
        return x;
    }

    /** What is due of a text: its fault and the fault's place; 0, NONE without. */
    static void fault(String text, int fault, int place) {
        Run x = new Run();
        x.type(text);
        Check.due("net() has a fault of [" + text + "]", x.net() == GeeseSums.NONE, fault != 0);
        Check.due("fault(0) of [" + text + "]", x.fault(0), fault);
        Check.due("fault(1) of [" + text + "]", x.fault(1), place);
    }

    /** Puts a text on the empty tape. */
    void type(String text) {
        int[] w = Check.words(text);
        for (int i = 0; i < w.length; i += 5) {
            feed(w[i], w[i + 1], w[i + 2], w[i + 3], w[i + 4]);
        }
        if (text.length() % 20 != 0) {
            end(text.length());
        }
    }

    /** What is due of the latest call. */
    void is(int got, int want) {
        Check.due(last + " (call " + calls + ")", got, want);
    }

    void is(boolean got, boolean want) {
        Check.due(last + " (call " + calls + ")", got, want);
    }

    /** What is due to lie there, and nothing behind it. */
    void lie(int... want) {
        String behind = last;
        Check.due("about(13) behind " + behind, about(13), want.length);
        for (int i = 0; i < want.length; i++) {
            Check.due("lies(" + i + ") behind " + behind, lies(i), want[i]);
        }
        Check.due("lies(" + want.length + ") behind " + behind, lies(want.length), GeeseSums.NONE);
    }

    /** What is due of all geese: begun, bred, on ways, at towers, lost, taken. */
    void geeseAre(int... want) {
        for (int i = 0; i < 6; i++) {
            is(geese(i), want[i]);
        }
    }

    int calls() {
        return calls;
    }

    private void tell(String name, int... given) {
        StringBuilder call = new StringBuilder(name).append("(");
        for (int i = 0; i < given.length; i++) {
            call.append(i > 0 ? ", " : "").append(given[i]);
        }
        last = call.append(")").toString();
        calls++;
        if (calls > MOST_CALLS) {
            throw new IllegalStateException("call " + calls + " of a run: " + last);
        }
    }

    // ---- all that there is, told by every call that tells of it; the run is of no use then ----

    private List<String> told;

    private void note(int answer) {
        told.add(last + " = " + answer);
    }

    private void note(boolean answer) {
        told.add(last + " = " + answer);
    }

    /** Of small nets only: some 300 calls. */
    List<String> all() {
        told = new ArrayList<>();
        int lying = about(13);
        for (int what = 0; what <= 13; what++) {
            note(about(what));
        }
        note(fault(0));
        note(fault(1));
        for (int i = 0; i < lying; i++) {
            note(lies(i));
        }
        net(about(0), about(2), about(3));
        sky();
        known();
        acts();
        for (int box = 0; box < 3; box++) {
            note(back(box));
            sky();
        }
        for (int start = 0; start < 3; start++) {
            note(row(start, 0));
        }
        note(feed(0x20202020, 0x20202020, 0x20202020, 0x20202020, 0x20202020));
        note(net());
        note(fault(0));
        note(fault(1));
        note(about(5));
        return told;
    }

    private void net(int towers, int ways, int claims) {
        for (int tower = 0; tower < towers; tower++) {
            note(tower(tower, 0));
            note(tower(tower, 1));
            note(reckon(tower, 7));
        }
        for (int way = 0; way < ways; way++) {
            note(way(way, 0));
            note(way(way, 1));
            note(way(way, 2));
        }
        for (int claim = 0; claim < claims; claim++) {
            note(says(claim));
        }
    }

    private void sky() {
        note(about(4));
        note(about(5));
        for (int what = 0; what < 6; what++) {
            note(geese(what));
        }
        for (int tower = 0; tower < about(0); tower++) {
            note(tower(tower, 2));
            note(tower(tower, 3));
        }
        for (int way = 0; way < about(2); way++) {
            for (int left = 1; left <= 4; left++) {
                note(flock(way, left));
            }
            note(way(way, 3));
        }
    }

    private void known() {
        note(chain());
        for (int i = 0; i < 3; i++) {
            note(lies(i));
        }
        for (int k = -1; k <= 6; k++) {
            note(begun(3, k));
            note(lies(0));
        }
        for (int sight = 0; sight < 3; sight++) {
            note(untell(sight));
        }
    }

    private void acts() {
        for (int i = 0; i < 5; i++) {
            note(undo());
            note(about(4));
            note(geese(0));
        }
        for (int i = 0; i < 6; i++) {
            note(redo());
            note(about(4));
            note(geese(0));
        }
    }

    // ---- the face ----

    int feed(int a, int b, int c, int d, int e) {
        tell("feed", a, b, c, d, e);
        return x.feed(a, b, c, d, e);
    }

    int end(int n) {
        tell("end", n);
        return x.end(n);
    }

    int net() {
        tell("net");
        return x.net();
    }

    int fault(int what) {
        tell("fault", what);
        return x.fault(what);
    }

    int tower(int tower, int what) {
        tell("tower", tower, what);
        return x.tower(tower, what);
    }

    int way(int way, int what) {
        tell("way", way, what);
        return x.way(way, what);
    }

    int flock(int way, int left) {
        tell("flock", way, left);
        return x.flock(way, left);
    }

    int geese(int what) {
        tell("geese", what);
        return x.geese(what);
    }

    int begin(int start, int n) {
        tell("begin", start, n);
        return x.begin(start, n);
    }

    int beats(int n) {
        tell("beats", n);
        return x.beats(n);
    }

    int gust() {
        tell("gust");
        return x.gust();
    }

    boolean undo() {
        tell("undo");
        return x.undo();
    }

    boolean redo() {
        tell("redo");
        return x.redo();
    }

    int row(int start, int n) {
        tell("row", start, n);
        return x.row(start, n);
    }

    int reckon(int dusk, int beats) {
        tell("reckon", dusk, beats);
        return x.reckon(dusk, beats);
    }

    int still() {
        tell("still");
        return x.still();
    }

    int says(int claim) {
        tell("says", claim);
        return x.says(claim);
    }

    int wrong(int claim, int m, int beats) {
        tell("wrong", claim, m, beats);
        return x.wrong(claim, m, beats);
    }

    int against(int claim, int m, int beats) {
        tell("against", claim, m, beats);
        return x.against(claim, m, beats);
    }

    int mend(int claim, int m, int beats) {
        tell("mend", claim, m, beats);
        return x.mend(claim, m, beats);
    }

    int loss(int way, int beat, int dusk, int beats) {
        tell("loss", way, beat, dusk, beats);
        return x.loss(way, beat, dusk, beats);
    }

    int blind(int dusk, int beats) {
        tell("blind", dusk, beats);
        return x.blind(dusk, beats);
    }

    int adds(int start, int dusk, int m, int beats, int what) {
        tell("adds", start, dusk, m, beats, what);
        return x.adds(start, dusk, m, beats, what);
    }

    int paths(int from, int to, int beats) {
        tell("paths", from, to, beats);
        return x.paths(from, to, beats);
    }

    int meet(int one, int other, int at) {
        tell("meet", one, other, at);
        return x.meet(one, other, at);
    }

    int spread(int from, int to) {
        tell("spread", from, to);
        return x.spread(from, to);
    }

    int ring() {
        tell("ring");
        return x.ring();
    }

    int pair(int of, int wanted) {
        tell("pair", of, wanted);
        return x.pair(of, wanted);
    }

    int hush() {
        tell("hush");
        return x.hush();
    }

    int chain() {
        tell("chain");
        return x.chain();
    }

    int lies(int i) {
        tell("lies", i);
        return x.lies(i);
    }

    int sight(int dusk, int beats, int many) {
        tell("sight", dusk, beats, many);
        return x.sight(dusk, beats, many);
    }

    boolean untell(int sight) {
        tell("untell", sight);
        return x.untell(sight);
    }

    int later(int by) {
        tell("later", by);
        return x.later(by);
    }

    int begun(int m, int k) {
        tell("begun", m, k);
        return x.begun(m, k);
    }

    int sure(int start, int m, int k) {
        tell("sure", start, m, k);
        return x.sure(start, m, k);
    }

    int image(int box) {
        tell("image", box);
        return x.image(box);
    }

    int back(int box) {
        tell("back", box);
        return x.back(box);
    }

    int about(int what) {
        tell("about", what);
        return x.about(what);
    }
}
