import java.util.ArrayList;
import java.util.HashMap;
import java.util.LinkedHashMap;
import java.util.List;
import java.util.Map;

/** The document told again in the plainest way, with lists and maps and without any haste: what the program is held against. */
final class Plain {
    static final int NONE = -1;

    // ---- the net ----

    record Tower(String name, String sort, int n, List<Integer> out) {
    }

    record Way(int from, int to, int beats) {
    }

    interface Formula {
        int of(int[] row);
    }

    record Claim(String name, int dusk, Formula formula) {
    }

    static final class Fault extends RuntimeException {
        final int what;
        final int place;

        Fault(int what, int place) {
            super("", null, false, false);
            this.what = what;
            this.place = place;
        }
    }

    static final class Net {
        final List<Tower> towers = new ArrayList<>();
        final List<Integer> starts = new ArrayList<>();
        final List<Way> ways = new ArrayList<>();
        final List<Claim> claims = new ArrayList<>();
        int draw = 0;
        int units = 0;

        int towerNamed(String name) {
            for (int i = 0; i < towers.size(); i++) {
                if (towers.get(i).name.equals(name)) {
                    return i;
                }
            }
            return NONE;
        }
    }

    static final List<String> SORTS = List.of("start", "join", "split", "odd", "dusk", "pond", "fox", "bread", "wind");
    static final List<String> OTHERS = List.of("way", "claim", "draw", "to", "in", "at", "or", "and", "not");

    /** Reads a text by its letters; words are looked for where they are wanted. */
    static final class Reader {
        final String text;
        int place = 0;
        String token = "";
        int next = 0;
        final Net net = new Net();
        boolean drawn = false;
        int here = 0;

        Reader(String text) {
            this.text = text;
            step();
        }

        void step() {
            place = next;
            while (place < text.length() && " \n".indexOf(text.charAt(place)) >= 0) {
                place++;
            }
            int i = place;
            if (i == text.length()) {
                token = "";
            } else if (text.substring(i).matches("(?s)[a-z].*")) {
                token = text.substring(i).replaceAll("(?s)[^a-z].*", "");
            } else if (text.substring(i).matches("(?s)[0-9].*")) {
                token = text.substring(i).replaceAll("(?s)[^0-9].*", "");
            } else {
                token = text.substring(i, i + 1);
            }
            next = place + token.length();
        }

        /** Every look at a token sees first whether it is one. */
        String look() {
            boolean word = token.matches("[a-z]{1,8}");
            boolean number = token.matches("[0-9]{1,4}") && !text.substring(next).matches("(?s)[a-z].*");
            boolean sign = token.length() == 1 && ";()<>=+-*/%".contains(token);
            if (!token.isEmpty() && !word && !number && !sign) {
                throw new Fault(1, place);
            }
            return token;
        }

        Fault out(int what) {
            look();
            return new Fault(what, place);
        }

        void take(String what) {
            if (!look().equals(what)) {
                throw out(2);
            }
            step();
        }

        boolean isName() {
            return look().matches("[a-z]+") && !SORTS.contains(token) && !OTHERS.contains(token);
        }

        String name() {
            if (!isName()) {
                throw out(2);
            }
            return token;
        }

        int number(int least, int most) {
            if (!look().matches("[0-9]+")) {
                throw out(2);
            }
            int n = Integer.parseInt(token);
            if (n < least || n > most) {
                throw out(4);
            }
            step();
            return n;
        }

        Net read() {
            while (!look().isEmpty()) {
                if (SORTS.contains(token)) {
                    tower();
                } else if (token.equals("way")) {
                    way();
                } else if (token.equals("claim")) {
                    claim();
                } else if (token.equals("draw") && !drawn) {
                    drawn = true;
                    step();
                    net.draw = number(0, 999);
                } else {
                    throw out(2);
                }
                take(";");
            }
            return net;
        }

        void tower() {
            String sort = token;
            if (net.towers.size() == 10 || (sort.equals("start") && net.starts.size() == 3)) {
                throw out(2);
            }
            step();
            String name = name();
            if (net.towerNamed(name) >= 0) {
                throw out(3);
            }
            step();
            int n = SORTS.indexOf(sort) >= 5 ? number(1, 99) : 0;
            if (sort.equals("start")) {
                net.starts.add(net.towers.size());
            }
            net.towers.add(new Tower(name, sort, n, new ArrayList<>()));
        }

        int known() {
            int tower = net.towerNamed(name());
            if (tower < 0) {
                throw out(5);
            }
            return tower;
        }

        void way() {
            if (net.ways.size() == 16) {
                throw out(2);
            }
            step();
            Tower from = net.towers.get(known());
            int most = from.sort.equals("dusk") ? 0 : from.sort.equals("split") || from.sort.equals("odd") ? 2 : 1;
            if (from.out.size() >= most) {
                throw out(6);
            }
            int f = known();
            step();
            take("to");
            int t = known();
            step();
            take("in");
            int beats = number(1, 9);
            from.out.add(net.ways.size());
            net.ways.add(new Way(f, t, beats));
        }

        void claim() {
            if (net.claims.size() == 6) {
                throw out(2);
            }
            step();
            String name = name();
            for (Claim claim : net.claims) {
                if (claim.name.equals(name)) {
                    throw out(3);
                }
            }
            step();
            take("at");
            int dusk = known();
            if (!net.towers.get(dusk).sort.equals("dusk")) {
                throw out(6);
            }
            step();
            here = 0;
            net.claims.add(new Claim(name, dusk, either(0)));
        }

        Formula either(int depth) {
            Formula f = both(depth);
            while (look().equals("or")) {
                step();
                Formula a = f;
                Formula b = both(depth);
                f = row -> a.of(row) != 0 || b.of(row) != 0 ? 1 : 0;
            }
            return f;
        }

        Formula both(int depth) {
            Formula f = one(depth);
            while (look().equals("and")) {
                step();
                Formula a = f;
                Formula b = one(depth);
                f = row -> a.of(row) != 0 && b.of(row) != 0 ? 1 : 0;
            }
            return f;
        }

        Formula one(int depth) {
            if (look().equals("not")) {
                if (depth >= 7) {
                    throw out(2);
                }
                step();
                Formula a = one(depth + 1);
                return row -> a.of(row) == 0 ? 1 : 0;
            }
            Formula a = sum(depth);
            String sign = look();
            if (!sign.equals("<") && !sign.equals(">") && !sign.equals("=")) {
                return a;
            }
            step();
            Formula b = sum(depth);
            return row -> {
                int order = Integer.compare(a.of(row), b.of(row));
                return (sign.equals("<") ? order < 0 : sign.equals(">") ? order > 0 : order == 0) ? 1 : 0;
            };
        }

        Formula sum(int depth) {
            Formula f = term(depth);
            while (look().equals("+") || token.equals("-")) {
                boolean plus = token.equals("+");
                step();
                Formula a = f;
                Formula b = term(depth);
                f = row -> plus ? a.of(row) + b.of(row) : a.of(row) - b.of(row);
            }
            return f;
        }

        Formula term(int depth) {
            Formula f = unit(depth);
            while (look().equals("*") || token.equals("/") || token.equals("%")) {
                String sign = token;
                step();
                Formula a = f;
                Formula b = unit(depth);
                f = row -> {
                    int by = b.of(row);
                    if (sign.equals("*")) {
                        return a.of(row) * by;
                    }
                    return by == 0 ? 0 : sign.equals("/") ? a.of(row) / by : a.of(row) % by;
                };
            }
            return f;
        }

        Formula unit(int depth) {
            boolean nested = look().equals("(");
            boolean number = token.matches("[0-9]+");
            if (!nested && !number && !isName()) {
                throw out(2);
            }
            if (here == 30 || net.units == 90 || (nested && depth >= 7)) {
                throw out(2);
            }
            here++;
            net.units++;
            if (nested) {
                step();
                Formula f = either(depth + 1);
                take(")");
                return f;
            }
            if (number) {
                int n = number(0, 9999);
                return row -> n;
            }
            int start = net.starts.indexOf(net.towerNamed(token));
            if (start < 0) {
                throw out(5);
            }
            step();
            return row -> row[start];
        }
    }

    // ---- the sky ----

    /** Geese by way and beats left; lists of numbers for the rest. */
    static final class Sky {
        Map<List<Integer>, Integer> on = new LinkedHashMap<>();
        int[] there = new int[10];
        int[] came = new int[10];
        int[] geese = new int[6];
        int seed;
        int beats;
        // Of the latest beat: how many set out, by way.
        int[] setOut = new int[16];

        Sky copy() {
            Sky other = new Sky();
            other.on.putAll(on);
            other.there = there.clone();
            other.came = came.clone();
            other.geese = geese.clone();
            other.seed = seed;
            other.beats = beats;
            return other;
        }

        int many(int way, int left) {
            return on.getOrDefault(List.of(way, left), 0);
        }

        int onWay(int way) {
            int many = 0;
            for (var e : on.entrySet()) {
                many += e.getKey().get(0) == way ? e.getValue() : 0;
            }
            return many;
        }

        void out(Net net, int tower, int which, int n) {
            List<Integer> out = net.towers.get(tower).out;
            if (out.size() <= which) {
                geese[4] += n;
                return;
            }
            int way = out.get(which);
            int fly = Math.min(n, 999999);
            geese[4] += n - fly;
            on.merge(List.of(way, net.ways.get(way).beats), fly, Integer::sum);
            setOut[way] += fly;
        }

        void beat(Net net) {
            beats++;
            setOut = new int[16];
            int[] flock = new int[10];
            Map<List<Integer>, Integer> nearer = new LinkedHashMap<>();
            for (var e : on.entrySet()) {
                int way = e.getKey().get(0);
                int left = e.getKey().get(1) - 1;
                if (left == 0) {
                    flock[net.ways.get(way).to] += e.getValue();
                } else {
                    nearer.put(List.of(way, left), e.getValue());
                }
            }
            on = nearer;
            for (int start : net.starts) {
                flock[start] += there[start];
                there[start] = 0;
            }
            for (int t = 0; t < net.towers.size(); t++) {
                if (flock[t] > 0) {
                    came[t]++;
                    serve(net, t, flock[t]);
                }
                Tower tower = net.towers.get(t);
                if (tower.sort.equals("pond") && there[t] >= tower.n) {
                    there[t] -= tower.n;
                    out(net, t, 0, tower.n);
                }
            }
        }

        void serve(Net net, int t, int flock) {
            Tower tower = net.towers.get(t);
            switch (tower.sort) {
                case "split" -> {
                    int all = flock + there[t];
                    there[t] = all & 1;
                    if (all > 1) {
                        out(net, t, 0, all / 2);
                        out(net, t, 1, all / 2);
                    }
                }
                case "odd" -> out(net, t, flock % 2 == 1 ? 0 : 1, flock);
                case "dusk", "pond" -> there[t] += flock;
                case "fox" -> {
                    int taken = flock < tower.n ? flock : tower.n;
                    geese[5] += taken;
                    if (flock > taken) {
                        out(net, t, 0, flock - taken);
                    }
                }
                case "bread" -> {
                    geese[1] += tower.n;
                    out(net, t, 0, flock + tower.n);
                }
                case "wind" -> {
                    geese[4] += flock % tower.n;
                    if (flock >= tower.n) {
                        out(net, t, 0, flock - flock % tower.n);
                    }
                }
                default -> out(net, t, 0, flock);
            }
        }

        int gust(Net net) {
            seed = (137 * seed + 71) % 1000;
            int way = seed % net.ways.size();
            Map<List<Integer>, Integer> farther = new LinkedHashMap<>();
            for (var e : on.entrySet()) {
                int left = e.getKey().get(1);
                boolean blown = e.getKey().get(0) == way;
                farther.merge(List.of(e.getKey().get(0), blown ? Math.min(12, left + 1) : left), e.getValue(), Integer::sum);
            }
            on = farther;
            return way;
        }

        boolean still(Net net) {
            for (int n : on.values()) {
                if (n > 0) {
                    return false;
                }
            }
            for (int t = 0; t < net.towers.size(); t++) {
                Tower tower = net.towers.get(t);
                if (tower.sort.equals("start") && there[t] > 0 || tower.sort.equals("pond") && there[t] >= tower.n) {
                    return false;
                }
            }
            return true;
        }
    }

    // ---- the object ----

    private StringBuilder tape = new StringBuilder();
    private Net net = new Net();
    private int fault = 0;
    private int place = NONE;
    private Sky sky = new Sky();
    private List<Sky> past = new ArrayList<>();
    private List<Sky> ahead = new ArrayList<>();
    private Sky[] boxes = new Sky[3];
    private int[] row = new int[3];
    private List<int[]> pairs = new ArrayList<>();
    private List<int[]> sights = new ArrayList<>();
    private int time = 0;
    private List<Integer> lying = new ArrayList<>();

    int feed(int a, int b, int c, int d, int e) {
        if (tape.length() + 20 > 1600) {
            return NONE;
        }
        for (int w : new int[] {a, b, c, d, e}) {
            for (int i = 3; i >= 0; i--) {
                tape.append((char) (w >>> 8 * i & 255));
            }
        }
        return tape.length();
    }

    int end(int n) {
        if (n < 0 || n > tape.length()) {
            return NONE;
        }
        tape.setLength(n);
        return n;
    }

    int net() {
        String text = tape.toString();
        tape.setLength(0);
        try {
            net = new Reader(text).read();
        } catch (Fault f) {
            fault = f.what;
            place = f.place;
            return NONE;
        }
        fault = 0;
        place = NONE;
        sky = new Sky();
        sky.seed = net.draw;
        past.clear();
        ahead.clear();
        boxes = new Sky[3];
        row = new int[3];
        pairs.clear();
        sights.clear();
        lying.clear();
        return net.towers.size();
    }

    int fault(int what) {
        return what == 0 ? fault : what == 1 ? place : NONE;
    }

    private boolean in(int n, int least, int most) {
        return least <= n && n <= most;
    }

    private boolean isTower(int t) {
        return in(t, 0, net.towers.size() - 1);
    }

    private boolean isDusk(int t) {
        return isTower(t) && net.towers.get(t).sort.equals("dusk");
    }

    private boolean isStart(int s) {
        return in(s, 0, net.starts.size() - 1);
    }

    private boolean isWay(int w) {
        return in(w, 0, net.ways.size() - 1);
    }

    int tower(int t, int what) {
        if (!isTower(t) || !in(what, 0, 3)) {
            return NONE;
        }
        Tower tower = net.towers.get(t);
        return new int[] {SORTS.indexOf(tower.sort), tower.n, sky.there[t], sky.came[t]}[what];
    }

    int way(int w, int what) {
        if (!isWay(w) || !in(what, 0, 3)) {
            return NONE;
        }
        Way way = net.ways.get(w);
        return new int[] {way.from, way.to, way.beats, sky.onWay(w)}[what];
    }

    int flock(int w, int left) {
        return isWay(w) && in(left, 1, 12) ? sky.many(w, left) : NONE;
    }

    int geese(int what) {
        if (what == 2) {
            int many = 0;
            for (int n : sky.on.values()) {
                many += n;
            }
            return many;
        }
        if (what == 3) {
            int many = 0;
            for (int n : sky.there) {
                many += n;
            }
            return many;
        }
        return in(what, 0, 5) ? sky.geese[what] : NONE;
    }

    private void act() {
        past.add(sky.copy());
        if (past.size() > 40) {
            past.remove(0);
        }
        ahead.clear();
    }

    int begin(int s, int n) {
        if (!isStart(s) || !in(n, 1, 999) || sky.there[net.starts.get(s)] + n > 999999) {
            return NONE;
        }
        act();
        sky.geese[0] += n;
        return sky.there[net.starts.get(s)] += n;
    }

    int beats(int n) {
        if (!in(n, 0, 60) || sky.beats + n > 1000) {
            return NONE;
        }
        act();
        for (int i = 0; i < n; i++) {
            sky.beat(net);
        }
        return sky.beats;
    }

    int gust() {
        if (net.ways.isEmpty()) {
            return NONE;
        }
        act();
        return sky.gust(net);
    }

    boolean undo() {
        if (past.isEmpty()) {
            return false;
        }
        ahead.add(sky);
        sky = past.remove(past.size() - 1);
        return true;
    }

    boolean redo() {
        if (ahead.isEmpty()) {
            return false;
        }
        past.add(sky);
        sky = ahead.remove(ahead.size() - 1);
        return true;
    }

    int row(int s, int n) {
        if (!isStart(s) || !in(n, 0, 999)) {
            return NONE;
        }
        int had = row[s];
        row[s] = n;
        return had;
    }

    private Sky opened(int[] r) {
        Sky s = new Sky();
        for (int i = 0; i < net.starts.size(); i++) {
            s.there[net.starts.get(i)] = r[i];
        }
        return s;
    }

    private int reckoned(int[] r, int dusk, int beats) {
        Sky s = opened(r);
        for (int i = 0; i < beats; i++) {
            s.beat(net);
        }
        return s.there[dusk];
    }

    int reckon(int dusk, int beats) {
        return isDusk(dusk) && in(beats, 1, 100) ? reckoned(row, dusk, beats) : NONE;
    }

    int still() {
        Sky s = opened(row);
        for (int i = 0; i <= 200; i++) {
            if (s.still(net)) {
                return i;
            }
            s.beat(net);
        }
        return NONE;
    }

    int says(int claim) {
        return in(claim, 0, net.claims.size() - 1) ? net.claims.get(claim).formula.of(row) : 0;
    }

    private List<int[]> rows(int m) {
        List<int[]> rows = new ArrayList<>();
        rows.add(new int[3]);
        for (int s = 0; s < net.starts.size(); s++) {
            List<int[]> more = new ArrayList<>();
            for (int[] r : rows) {
                for (int n = 0; n <= m; n++) {
                    int[] one = r.clone();
                    one[s] = n;
                    more.add(one);
                }
            }
            rows = more;
        }
        return rows;
    }

    private boolean right(Claim claim, int[] r, int beats) {
        return claim.formula.of(r) == reckoned(r, claim.dusk, beats);
    }

    private boolean asked(int claim, int m, int beats) {
        return in(claim, 0, net.claims.size() - 1) && in(m, 0, 99) && in(beats, 1, 100);
    }

    int wrong(int claim, int m, int beats) {
        if (!asked(claim, m, beats)) {
            return NONE;
        }
        if (Math.pow(m + 1, net.starts.size()) > 1000) {
            return -2;
        }
        int many = 0;
        for (int[] r : rows(m)) {
            many += right(net.claims.get(claim), r, beats) ? 0 : 1;
        }
        return many;
    }

    int against(int claim, int m, int beats) {
        lying.clear();
        if (!asked(claim, m, beats)) {
            return NONE;
        }
        if (Math.pow(m + 1, net.starts.size()) > 1000) {
            return -2;
        }
        int ahead = 0;
        for (int[] r : rows(m)) {
            if (!right(net.claims.get(claim), r, beats)) {
                for (int s = 0; s < net.starts.size(); s++) {
                    lying.add(r[s]);
                }
                return ahead;
            }
            ahead++;
        }
        return NONE;
    }

    private boolean allRight(Claim claim, List<int[]> rows, int beats) {
        for (int[] r : rows) {
            if (!right(claim, r, beats)) {
                return false;
            }
        }
        return true;
    }

    private boolean tryWays(Claim claim, List<int[]> rows, int beats, int from, int many) {
        if (many == 0) {
            return allRight(claim, rows, beats);
        }
        for (int w = from; w < net.ways.size(); w++) {
            Way was = net.ways.get(w);
            for (int b = 1; b <= 9; b++) {
                if (b == was.beats) {
                    continue;
                }
                net.ways.set(w, new Way(was.from, was.to, b));
                lying.add(10 * w + b);
                boolean found = tryWays(claim, rows, beats, w + 1, many - 1);
                net.ways.set(w, was);
                if (found) {
                    return true;
                }
                lying.remove(lying.size() - 1);
            }
        }
        return false;
    }

    int mend(int claim, int m, int beats) {
        lying.clear();
        if (!asked(claim, m, beats)) {
            return NONE;
        }
        if (Math.pow(m + 1, net.starts.size()) > 16) {
            return -2;
        }
        List<int[]> rows = rows(m);
        for (int many = 0; many <= 2; many++) {
            if (tryWays(net.claims.get(claim), rows, beats, 0, many)) {
                return many;
            }
        }
        return NONE;
    }

    /** NONE below all numbers, if none set out. */
    private int without(int way, int beat, int dusk, int beats) {
        Sky s = opened(row);
        for (int i = 1; i <= beats; i++) {
            s.beat(net);
            if (i == beat) {
                if (s.setOut[way] == 0) {
                    return Integer.MIN_VALUE;
                }
                s.on.merge(List.of(way, net.ways.get(way).beats), -1, Integer::sum);
                s.on.values().removeIf(n -> n == 0);
            }
        }
        return s.there[dusk];
    }

    int loss(int way, int beat, int dusk, int beats) {
        if (!isWay(way) || !isDusk(dusk) || !in(beats, 1, 100) || !in(beat, 1, beats)) {
            return NONE;
        }
        int left = without(way, beat, dusk, beats);
        return left == Integer.MIN_VALUE ? 0 : reckoned(row, dusk, beats) - left;
    }

    int blind(int dusk, int beats) {
        if (!isDusk(dusk) || !in(beats, 1, 100)) {
            return NONE;
        }
        int whole = reckoned(row, dusk, beats);
        int many = 0;
        for (int way = 0; way < net.ways.size(); way++) {
            for (int beat = 1; beat <= beats; beat++) {
                many += without(way, beat, dusk, beats) == whole ? 1 : 0;
            }
        }
        return many;
    }

    int adds(int start, int dusk, int m, int beats, int what) {
        if (!isStart(start) || !isDusk(dusk) || !in(m, 0, 40) || !in(beats, 1, 100) || !in(what, 0, 2)) {
            return NONE;
        }
        int[] r = new int[m + 1];
        for (int n = 1; n <= m; n++) {
            int[] one = new int[3];
            one[start] = n;
            r[n] = reckoned(one, dusk, beats);
        }
        List<int[]> against = new ArrayList<>();
        for (int a = 1; a <= m; a++) {
            for (int b = a; a + b <= m; b++) {
                if (r[a + b] != r[a] + r[b]) {
                    against.add(new int[] {a, b});
                }
            }
        }
        return what == 0 ? against.size() : against.isEmpty() ? NONE : against.get(0)[what - 1];
    }

    private java.math.BigInteger walks(int from, int to, int beats, Map<List<Integer>, java.math.BigInteger> known) {
        List<Integer> key = List.of(from, beats);
        if (known.containsKey(key)) {
            return known.get(key);
        }
        var many = java.math.BigInteger.valueOf(from == to && beats == 0 ? 1 : 0);
        for (Way way : net.ways) {
            if (way.from == from && way.beats <= beats) {
                many = many.add(walks(way.to, to, beats - way.beats, known));
            }
        }
        known.put(key, many);
        return many;
    }

    int paths(int from, int to, int beats) {
        if (!isTower(from) || !isTower(to) || !in(beats, 0, 60)) {
            return NONE;
        }
        return walks(from, to, beats, new HashMap<>()).min(java.math.BigInteger.valueOf(1000000000)).intValue();
    }

    int meet(int one, int other, int at) {
        if (!isTower(one) || !isTower(other) || !isTower(at)) {
            return NONE;
        }
        for (int t = 0; t <= 60; t++) {
            if (paths(one, at, t) > 0 && paths(other, at, t) > 0) {
                return t;
            }
        }
        return NONE;
    }

    int spread(int from, int to) {
        if (!isTower(from) || !isTower(to)) {
            return NONE;
        }
        int many = 0;
        for (int t = 0; t <= 60; t++) {
            many += paths(from, to, t) > 0 ? 1 : 0;
        }
        return many;
    }

    private void visit(int tower, boolean[] seen) {
        for (Way way : net.ways) {
            if (way.from == tower && !seen[way.to]) {
                seen[way.to] = true;
                visit(way.to, seen);
            }
        }
    }

    int ring() {
        int bits = 0;
        for (int t = 0; t < net.towers.size(); t++) {
            boolean[] seen = new boolean[10];
            visit(t, seen);
            bits |= seen[t] ? 1 << t : 0;
        }
        return bits;
    }

    int pair(int of, int wanted) {
        if (!in(of, 0, 999) || !in(wanted, 0, 999) || pairs.size() == 4) {
            return NONE;
        }
        pairs.add(new int[] {of, wanted});
        return pairs.size();
    }

    int hush() {
        int were = pairs.size();
        pairs.clear();
        return were;
    }

    int chain() {
        lying.clear();
        List<Integer> wanted = new ArrayList<>();
        List<Integer> of = new ArrayList<>();
        for (int[] pair : pairs) {
            of.add(pair[0]);
            wanted.add(pair[1]);
        }
        // All that can be made, each with the first chain for it; a chain's first towers count most.
        Map<List<Integer>, List<Integer>> made = new LinkedHashMap<>();
        made.put(of, List.of());
        Map<List<Integer>, List<Integer>> known = new HashMap<>(made);
        for (int length = 0; length <= 8; length++) {
            if (known.containsKey(wanted)) {
                lying.addAll(known.get(wanted));
                return length;
            }
            Map<List<Integer>, List<Integer>> next = new LinkedHashMap<>();
            for (var e : made.entrySet()) {
                for (int sort = 0; sort < 4; sort++) {
                    List<Integer> then = new ArrayList<>();
                    for (int v : e.getKey()) {
                        then.add(sort == 0 ? v / 2 : sort == 1 ? v + 1 : sort == 2 ? Math.max(0, v - 1) : 2 * v);
                    }
                    if (!known.containsKey(then)) {
                        List<Integer> chain = new ArrayList<>(e.getValue());
                        chain.add(sort);
                        known.put(then, chain);
                        next.put(then, chain);
                    }
                }
            }
            made = next;
        }
        return NONE;
    }

    int lies(int i) {
        return in(i, 0, lying.size() - 1) ? lying.get(i) : NONE;
    }

    int sight(int dusk, int beats, int many) {
        if (!isDusk(dusk) || !in(beats, 1, 60) || !in(many, 0, 999999) || sights.size() == 20) {
            return NONE;
        }
        sights.add(new int[] {dusk, beats, many, time, Integer.MAX_VALUE, 0});
        return sights.size() - 1;
    }

    boolean untell(int sight) {
        if (!in(sight, 0, sights.size() - 1) || sights.get(sight)[5] == 1) {
            return false;
        }
        sights.get(sight)[4] = time;
        sights.get(sight)[5] = 1;
        return true;
    }

    int later(int by) {
        if (!in(by, 0, 1000) || time + by > 100000) {
            return NONE;
        }
        return time += by;
    }

    private List<int[]> so(int m, int k) {
        List<int[]> rows = new ArrayList<>();
        for (int[] r : rows(m)) {
            boolean so = true;
            for (int[] s : sights) {
                boolean counts = s[3] <= k && !(s[5] == 1 && s[4] <= k);
                so = so && (!counts || reckoned(r, s[0], s[1]) == s[2]);
            }
            if (so) {
                rows.add(r);
            }
        }
        return rows;
    }

    int begun(int m, int k) {
        lying.clear();
        if (!in(m, 0, 9)) {
            return NONE;
        }
        List<int[]> rows = so(m, k);
        for (int s = 0; s < net.starts.size() && !rows.isEmpty(); s++) {
            lying.add(rows.get(0)[s]);
        }
        return rows.size();
    }

    int sure(int start, int m, int k) {
        if (!isStart(start) || !in(m, 0, 9)) {
            return NONE;
        }
        List<int[]> rows = so(m, k);
        if (rows.isEmpty()) {
            return NONE;
        }
        for (int[] r : rows) {
            if (r[start] != rows.get(0)[start]) {
                return -2;
            }
        }
        return rows.get(0)[start];
    }

    int image(int box) {
        if (!in(box, 0, 2)) {
            return NONE;
        }
        boxes[box] = sky.copy();
        return sky.beats;
    }

    int back(int box) {
        if (!in(box, 0, 2) || boxes[box] == null) {
            return NONE;
        }
        sky = boxes[box].copy();
        past.clear();
        ahead.clear();
        return sky.beats;
    }

    int about(int what) {
        int[] all = {net.towers.size(), net.starts.size(), net.ways.size(), net.claims.size(), sky.beats, sky.seed,
            past.size(), ahead.size(), pairs.size(), sights.size(), time, tape.length(), net.units, lying.size()};
        return in(what, 0, 13) ? all[what] : NONE;
    }
}
