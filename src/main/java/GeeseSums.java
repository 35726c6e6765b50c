/** Geese that reckon: a net of towers and ways, told in a text, over which sums are flown. */
public final class GeeseSums {
    /** There is none. */
    public static final int NONE = -1;

    private static final int SPENT = -2;
    private static final int UNSURE = -2;
    private static final int BOXES = 3;
    private static final int MOST_ROW = 999;
    private static final int MOST_BEATS_OF_ACT = 60;
    private static final int MOST_BEATS_IN_EARNEST = 1000;
    private static final int MOST_BEATS_TRIED = 100;
    private static final int MOST_M_OF_CLAIM = 99;
    private static final int MOST_M_OF_ADDS = 40;
    private static final int MOST_LATER = 1000;
    private static final int MOST_TIME = 100000;

    private final Tape tape;
    private final Parser parser;
    private final Acts acts;
    private final Sky[] boxes;
    private final boolean[] kept;
    private final int[] row;
    private final Trial trial;
    private final Claims claims;
    private final Paths paths;
    private final Chain chain;
    private final Sights sights;
    private final Lying lying;
    private Net net;
    private Net spare;
    private int time;

    /** An empty net. */
    public GeeseSums() {
        net = new Net();
        spare = new Net();
        tape = new Tape();
        parser = new Parser(tape, spare);
        acts = new Acts();
        boxes = new Sky[BOXES];
        for (int i = 0; i < BOXES; i++) {
            boxes[i] = new Sky();
        }
        kept = new boolean[BOXES];
        row = new int[Net.MOST_STARTS];
        trial = new Trial();
        paths = new Paths();
        lying = new Lying();
        claims = new Claims(trial, paths, lying);
        chain = new Chain(lying);
        sights = new Sights(trial);
    }

    // ---- the text ----

    /** Twenty bytes behind those on the tape: how many there are. */
    public int feed(int a, int b, int c, int d, int e) {
        if (tape.length > Tape.MOST - 20) {
            return NONE;
        }
        tape.put(a);
        tape.put(b);
        tape.put(c);
        tape.put(d);
        tape.put(e);
        return tape.length;
    }

    /** The tape is cut behind its first n bytes: n. */
    public int end(int n) {
        if (n < 0 || n > tape.length) {
            return NONE;
        }
        tape.length = n;
        return n;
    }

    /** The tape is the net: how many towers. */
    public int net() {
        boolean fine = parser.read(spare);
        tape.length = 0;
        if (!fine) {
            return NONE;
        }
        Net old = net;
        net = spare;
        spare = old;
        acts.restart(net.draw);
        for (int i = 0; i < BOXES; i++) {
            kept[i] = false;
        }
        for (int i = 0; i < Net.MOST_STARTS; i++) {
            row[i] = 0;
        }
        chain.many = 0;
        sights.many = 0;
        lying.many = 0;
        return net.towers;
    }

    /** Of the latest net(): 0 its fault, 1 its place. */
    public int fault(int what) {
        if (what == 0) {
            return parser.fault;
        }
        return what == 1 ? parser.place : NONE;
    }

    // ---- in earnest ----

    /** Of a tower: 0 sort, 1 N, 2 who is there, 3 flocks that came. */
    public int tower(int tower, int what) {
        if (!isTower(tower)) {
            return NONE;
        }
        switch (what) {
            case 0: return net.sorts[tower];
            case 1: return net.sizes[tower];
            case 2: return acts.now().there[tower];
            case 3: return acts.now().came[tower];
            default: return NONE;
        }
    }

    /** Of a way: 0 from, 1 to, 2 beats, 3 how many are on it. */
    public int way(int way, int what) {
        if (!isWay(way)) {
            return NONE;
        }
        switch (what) {
            case 0: return net.from[way];
            case 1: return net.to[way];
            case 2: return net.beats[way];
            case 3: return acts.now().onWay(way);
            default: return NONE;
        }
    }

    /** How many on a way have so many beats left. */
    public int flock(int way, int left) {
        if (!isWay(way) || !isWithin(left, 1, Sky.FARTHEST)) {
            return NONE;
        }
        return acts.now().left(way, left);
    }

    /** Geese: 0 begun, 1 bred, 2 on ways, 3 at towers, 4 lost, 5 taken. */
    public int geese(int what) {
        Sky sky = acts.now();
        switch (what) {
            case 0: return sky.begun;
            case 1: return sky.bred;
            case 2: return sky.flying;
            case 3: return sky.atTowers();
            case 4: return sky.lost;
            case 5: return sky.taken;
            default: return NONE;
        }
    }

    /** A flock is begun: how many wait there then. */
    public int begin(int start, int n) {
        if (!isStart(start) || !isWithin(n, 1, MOST_ROW)) {
            return NONE;
        }
        int tower = net.startTowers[start];
        if (acts.now().there[tower] > Sky.MOST - n) {
            return NONE;
        }
        Sky sky = acts.goOn();
        sky.settle(tower, n);
        return sky.there[tower];
    }

    /** So many beats go by: how many did, in all. */
    public int beats(int n) {
        if (!isWithin(n, 0, MOST_BEATS_OF_ACT) || acts.now().beats > MOST_BEATS_IN_EARNEST - n) {
            return NONE;
        }
        Sky sky = acts.goOn();
        for (int i = 0; i < n; i++) {
            sky.pass(net);
        }
        return sky.beats;
    }

    /** A gust: the way. */
    public int gust() {
        if (net.ways == 0) {
            return NONE;
        }
        return acts.goOn().blow(net.ways);
    }

    /** Takes back the latest act that was not. */
    public boolean undo() {
        return acts.takeBack();
    }

    /** Does again what was taken back last. */
    public boolean redo() {
        return acts.doAgain();
    }

    // ---- the row and what is reckoned of it ----

    /** The row has so many at a start: how many it had. */
    public int row(int start, int n) {
        if (!isStart(start) || !isWithin(n, 0, MOST_ROW)) {
            return NONE;
        }
        int had = row[start];
        row[start] = n;
        return had;
    }

    /** Reckoned at a dusk behind so many beats. */
    public int reckon(int dusk, int beats) {
        if (!isTried(dusk, beats)) {
            return NONE;
        }
        return trial.reckoned(net, row, dusk, beats);
    }

    /** The first beat behind which all is still. */
    public int still() {
        return trial.stillAt(net, row);
    }

    /** What a claim says of the row at hand. */
    public int says(int claim) {
        return isClaim(claim) ? net.value(claim, row) : 0;
    }

    /** For how many rows a claim is wrong. */
    public int wrong(int claim, int m, int beats) {
        if (!isClaimTried(claim, m, beats)) {
            return NONE;
        }
        return claims.ask(net, claim, m, beats) > Claims.MOST_ROWS ? SPENT : claims.wrongOnes(net);
    }

    /** How many rows ahead of the first against a claim are right. */
    public int against(int claim, int m, int beats) {
        lying.many = 0;
        if (!isClaimTried(claim, m, beats)) {
            return NONE;
        }
        return claims.ask(net, claim, m, beats) > Claims.MOST_ROWS ? SPENT : claims.firstAgainst(net);
    }

    /** The fewest ways to be given other beats. */
    public int mend(int claim, int m, int beats) {
        lying.many = 0;
        if (!isClaimTried(claim, m, beats)) {
            return NONE;
        }
        if (claims.ask(net, claim, m, beats) > Claims.MOST_ROWS_TO_MEND) {
            return SPENT;
        }
        return claims.fewestToMend(net);
    }

    /** By how much less is reckoned, if one goose is lost. */
    public int loss(int way, int beat, int dusk, int beats) {
        if (!isWay(way) || !isTried(dusk, beats) || !isWithin(beat, 1, beats)) {
            return NONE;
        }
        return trial.lossOf(net, row, way, beat, dusk, beats);
    }

    /** How many losses change nothing at a dusk. */
    public int blind(int dusk, int beats) {
        if (!isTried(dusk, beats)) {
            return NONE;
        }
        return trial.unseen(net, row, dusk, beats);
    }

    /** For how many pairs a dusk does not add; the first of them. */
    public int adds(int start, int dusk, int m, int beats, int what) {
        if (!isStart(start) || !isTried(dusk, beats)) {
            return NONE;
        }
        if (!isWithin(m, 0, MOST_M_OF_ADDS) || !isWithin(what, 0, 2)) {
            return NONE;
        }
        return trial.unadded(net, start, dusk, m, beats, what);
    }

    // ---- paths ----

    /** How many rows of ways of so many beats. */
    public int paths(int from, int to, int beats) {
        if (!isTower(from) || !isTower(to) || !isWithin(beats, 0, Paths.MOST_BEATS)) {
            return NONE;
        }
        return paths.count(net, from, to, beats);
    }

    /** The fewest beats of which paths lead from both to a third one. */
    public int meet(int one, int other, int at) {
        if (!isTower(one) || !isTower(other) || !isTower(at)) {
            return NONE;
        }
        return paths.firstMeeting(net, one, other, at);
    }

    /** Of how many unlike numbers of beats paths lead there. */
    public int spread(int from, int to) {
        if (!isTower(from) || !isTower(to)) {
            return NONE;
        }
        return paths.lengths(net, from, to);
    }

    /** The towers that some path comes back to, as bits. */
    public int ring() {
        return paths.returning(net);
    }

    // ---- pairs and chains ----

    /** A pair: how many there are. */
    public int pair(int of, int wanted) {
        if (!isWithin(of, 0, MOST_ROW) || !isWithin(wanted, 0, MOST_ROW)) {
            return NONE;
        }
        return chain.want(of, wanted);
    }

    /** There are no pairs: how many there were. */
    public int hush() {
        int were = chain.many;
        chain.many = 0;
        return were;
    }

    /** The shortest chain of towers for the pairs. */
    public int chain() {
        lying.many = 0;
        return chain.shortest();
    }

    /** The i-th number of what lies there. */
    public int lies(int i) {
        return isWithin(i, 0, lying.many - 1) ? lying.numbers[i] : NONE;
    }

    // ---- sights ----

    /** A sight: its number. */
    public int sight(int dusk, int beats, int many) {
        if (!isDusk(dusk) || !isWithin(beats, 1, Sights.MOST_BEATS) || !isWithin(many, 0, Sky.MOST)) {
            return NONE;
        }
        return sights.tell(dusk, beats, many, time);
    }

    /** A sight is untold. */
    public boolean untell(int sight) {
        return sights.takeBack(sight, time);
    }

    /** So much later: the time. */
    public int later(int by) {
        if (!isWithin(by, 0, MOST_LATER) || time > MOST_TIME - by) {
            return NONE;
        }
        time += by;
        return time;
    }

    /** How many rows are so as was seen, as known at k. */
    public int begun(int m, int k) {
        lying.many = 0;
        if (!isWithin(m, 0, Sights.MOST_M)) {
            return NONE;
        }
        sights.survey(net, m, k);
        for (int start = 0; start < net.starts && sights.rows > 0; start++) {
            lying.put(sights.first[start]);
        }
        return sights.rows;
    }

    /** How many were begun at a start in all rows that are so. */
    public int sure(int start, int m, int k) {
        if (!isStart(start) || !isWithin(m, 0, Sights.MOST_M)) {
            return NONE;
        }
        sights.survey(net, m, k);
        if (sights.rows == 0) {
            return NONE;
        }
        return sights.unlike[start] ? UNSURE : sights.first[start];
    }

    // ---- images ----

    /** The sky is kept in a box: how many beats there were. */
    public int image(int box) {
        if (!isWithin(box, 0, BOXES - 1)) {
            return NONE;
        }
        boxes[box].copy(acts.now());
        kept[box] = true;
        return boxes[box].beats;
    }

    /** All is as it was kept: how many beats there were. */
    public int back(int box) {
        if (!isWithin(box, 0, BOXES - 1) || !kept[box]) {
            return NONE;
        }
        acts.restartFrom(boxes[box]);
        return boxes[box].beats;
    }

    /** What there is of everything. */
    public int about(int what) {
        switch (what) {
            case 0: return net.towers;
            case 1: return net.starts;
            case 2: return net.ways;
            case 3: return net.claims;
            case 4: return acts.now().beats;
            case 5: return acts.now().seed;
            case 6: return acts.undoable;
            case 7: return acts.redoable;
            case 8: return chain.many;
            case 9: return sights.many;
            case 10: return time;
            case 11: return tape.length;
            case 12: return net.units;
            case 13: return lying.many;
            default: return NONE;
        }
    }

    // ---- what can be ----

    private static boolean isWithin(int n, int least, int most) {
        return n >= least && n <= most;
    }

    private boolean isTower(int tower) {
        return isWithin(tower, 0, net.towers - 1);
    }

    private boolean isDusk(int tower) {
        return isTower(tower) && net.sorts[tower] == Net.DUSK;
    }

    private boolean isStart(int start) {
        return isWithin(start, 0, net.starts - 1);
    }

    private boolean isWay(int way) {
        return isWithin(way, 0, net.ways - 1);
    }

    private boolean isClaim(int claim) {
        return isWithin(claim, 0, net.claims - 1);
    }

    private boolean isTried(int dusk, int beats) {
        return isDusk(dusk) && isWithin(beats, 1, MOST_BEATS_TRIED);
    }

    private boolean isClaimTried(int claim, int m, int beats) {
        return isClaim(claim) && isWithin(m, 0, MOST_M_OF_CLAIM) && isWithin(beats, 1, MOST_BEATS_TRIED);
    }

    /** What lies there. */
    private static final class Lying {
        static final int MOST = 8;

        final int[] numbers;
        int many;

        Lying() {
            numbers = new int[MOST];
        }

        void put(int number) {
            if (many < MOST) {
                numbers[many] = number;
                many++;
            }
        }
    }

    /** The bytes of a text, and the tokens that they are parted into. */
    private static final class Tape {
        static final int MOST = 1600;
        static final int LONGEST_WORD = 8;
        static final int LONGEST_NUMBER = 4;

        static final int BAD = 0;
        static final int END = 1;
        static final int KEYWORD = 2;
        static final int NAME = 3;
        static final int NUMBER = 4;
        static final int SIGN = 5;

        // The sorts of towers come first, so that such a word's number is its sort's.
        static final int WAY = 9;
        static final int CLAIM = 10;
        static final int DRAW = 11;
        static final int TO = 12;
        static final int IN = 13;
        static final int AT = 14;
        static final int OR = 15;
        static final int AND = 16;
        static final int NOT = 17;
        static final int KEYWORDS = 18;
        private static final String WORDS =
            "start join split odd dusk pond fox bread wind way claim draw to in at or and not ";
        private static final String SIGNS = ";()<>=+-*/%";

        final int[] bytes;
        int length;
        private final long[] keywords;
        private final int[] kinds;
        private final int[] places;
        private final long[] values;
        private int tokens;
        private int at;
        // The token at hand.
        int kind;
        int place;
        long value;

        Tape() {
            bytes = new int[MOST];
            keywords = new long[KEYWORDS];
            // One token a byte at most, and the end.
            kinds = new int[MOST + 1];
            places = new int[MOST + 1];
            values = new long[MOST + 1];
            int word = 0;
            for (int i = 0; i < WORDS.length() && word < KEYWORDS; i++) {
                if (WORDS.charAt(i) == ' ') {
                    word++;
                } else {
                    keywords[word] = withLetter(keywords[word], WORDS.charAt(i));
                }
            }
        }

        void put(int four) {
            for (int shift = 24; shift >= 0 && length < MOST; shift -= 8) {
                bytes[length] = four >> shift & 255;
                length++;
            }
        }

        /** Nothing is read behind what is no token: no fault there can be the first by its place. */
        void part() {
            tokens = 0;
            int next = 0;
            for (int i = 0; i < MOST && next < length; i++) {
                next = partOne(next);
            }
            add(END, length, 0);
            at = -1;
            step();
        }

        private int partOne(int from) {
            int c = bytes[from];
            if (c == 32 || c == 10) {
                return from + 1;
            }
            if (isLetter(c)) {
                return partWord(from);
            }
            if (isDigit(c)) {
                return partNumber(from);
            }
            if (SIGNS.indexOf((char) c) >= 0) {
                add(SIGN, from, c);
                return from + 1;
            }
            return partBad(from);
        }

        private int partWord(int from) {
            int behind = from;
            long word = 0;
            for (int i = from; i < length && isLetter(bytes[i]); i++) {
                word = withLetter(word, bytes[i]);
                behind = i + 1;
            }
            if (behind - from > LONGEST_WORD) {
                return partBad(from);
            }
            for (int i = 0; i < KEYWORDS; i++) {
                if (keywords[i] == word) {
                    add(KEYWORD, from, i);
                    return behind;
                }
            }
            add(NAME, from, word);
            return behind;
        }

        private int partNumber(int from) {
            int behind = from;
            int number = 0;
            for (int i = from; i < length && isDigit(bytes[i]); i++) {
                number = number * 10 + (bytes[i] - '0');
                behind = i + 1;
            }
            boolean isGlued = behind < length && isLetter(bytes[behind]);
            if (isGlued || behind - from > LONGEST_NUMBER) {
                return partBad(from);
            }
            add(NUMBER, from, number);
            return behind;
        }

        private int partBad(int from) {
            add(BAD, from, 0);
            return length;
        }

        private void add(int kind, int place, long value) {
            if (tokens <= MOST) {
                kinds[tokens] = kind;
                places[tokens] = place;
                values[tokens] = value;
                tokens++;
            }
        }

        private static boolean isLetter(int c) {
            return c >= 'a' && c <= 'z';
        }

        private static boolean isDigit(int c) {
            return c >= '0' && c <= '9';
        }

        /** Eight letters, five bits each, fit in a long, so names need no texts. */
        private static long withLetter(long word, int c) {
            return word * 32 + (c - 'a' + 1);
        }

        boolean isKeyword(int word) {
            return kind == KEYWORD && value == word;
        }

        boolean isSign(int sign) {
            return kind == SIGN && value == sign;
        }

        /** Stays at the end, once it is there. */
        void step() {
            if (at < tokens - 1) {
                at++;
                kind = kinds[at];
                place = places[at];
                value = values[at];
            }
        }
    }

    /** Reads a text into a net, as far as the first fault. */
    private static final class Parser {
        static final int NO_TOKEN = 1;
        static final int OUT_OF_PLACE = 2;
        static final int TOLD_ALREADY = 3;
        static final int BAD_NUMBER = 4;
        static final int UNKNOWN = 5;
        static final int OTHER_SORT = 6;

        // What binds least comes first: each level's parts are of the next one.
        private static final int OR_LEVEL = 0;
        private static final int AND_LEVEL = 1;
        private static final int ONE_LEVEL = 2;
        private static final int UNIT_LEVEL = 5;
        private static final int DEEPEST = 6;
        private static final int MOST_IN_ONE = 30;

        int fault;
        int place;
        private final Tape tape;
        private final long[] towerNames;
        private final long[] claimNames;
        private Net net;
        private boolean drawn;
        private int number;
        private int unitsHere;

        Parser(Tape tape, Net net) {
            this.tape = tape;
            this.net = net;
            towerNames = new long[Net.MOST_TOWERS];
            claimNames = new long[Net.MOST_CLAIMS];
            place = NONE;
        }

        /** Whether the tape's text is without fault. */
        boolean read(Net into) {
            net = into;
            net.clear();
            fault = 0;
            place = NONE;
            drawn = false;
            tape.part();
            boolean fine = true;
            for (int i = 0; i <= Tape.MOST && fine && tape.kind != Tape.END; i++) {
                fine = line();
            }
            return fine;
        }

        private boolean fail(int what) {
            fault = tape.kind == Tape.BAD ? NO_TOKEN : what;
            place = tape.place;
            return false;
        }

        private boolean line() {
            if (tape.kind != Tape.KEYWORD) {
                return fail(OUT_OF_PLACE);
            }
            int word = (int) tape.value;
            if (word <= Net.WIND) {
                return towerLine(word);
            }
            switch (word) {
                case Tape.WAY: return wayLine();
                case Tape.CLAIM: return claimLine();
                case Tape.DRAW: return drawLine();
                default: return fail(OUT_OF_PLACE);
            }
        }

        private boolean towerLine(int sort) {
            boolean isOver = sort == Net.START && net.starts == Net.MOST_STARTS;
            if (isOver || net.towers == Net.MOST_TOWERS) {
                return fail(OUT_OF_PLACE);
            }
            tape.step();
            if (tape.kind != Tape.NAME) {
                return fail(OUT_OF_PLACE);
            }
            if (towerHere() != NONE) {
                return fail(TOLD_ALREADY);
            }
            towerNames[net.towers] = tape.value;
            tape.step();
            number = 0;
            if (sort >= Net.POND && !takeNumber(1, 99)) {
                return false;
            }
            net.addTower(sort, number);
            return takeSign(';');
        }

        private boolean wayLine() {
            if (net.ways == Net.MOST_WAYS) {
                return fail(OUT_OF_PLACE);
            }
            tape.step();
            int from = towerHere();
            if (!isTowerHere(from)) {
                return false;
            }
            if (!net.hasRoomForWay(from)) {
                return fail(OTHER_SORT);
            }
            tape.step();
            if (!takeWord(Tape.TO)) {
                return false;
            }
            int to = towerHere();
            if (!isTowerHere(to)) {
                return false;
            }
            tape.step();
            if (!takeWord(Tape.IN) || !takeNumber(1, 9)) {
                return false;
            }
            net.addWay(from, to, number);
            return takeSign(';');
        }

        private boolean claimLine() {
            if (net.claims == Net.MOST_CLAIMS) {
                return fail(OUT_OF_PLACE);
            }
            tape.step();
            if (tape.kind != Tape.NAME) {
                return fail(OUT_OF_PLACE);
            }
            if (find(claimNames, net.claims) != NONE) {
                return fail(TOLD_ALREADY);
            }
            claimNames[net.claims] = tape.value;
            tape.step();
            if (!takeWord(Tape.AT)) {
                return false;
            }
            int dusk = towerHere();
            if (!isTowerHere(dusk)) {
                return false;
            }
            if (net.sorts[dusk] != Net.DUSK) {
                return fail(OTHER_SORT);
            }
            tape.step();
            unitsHere = 0;
            if (!formula(OR_LEVEL, 0)) {
                return false;
            }
            net.addClaim(dusk);
            return takeSign(';');
        }

        private boolean drawLine() {
            if (drawn) {
                return fail(OUT_OF_PLACE);
            }
            drawn = true;
            tape.step();
            if (!takeNumber(0, 999)) {
                return false;
            }
            net.draw = number;
            return takeSign(';');
        }

        /** Depth: within how many units ( e ) and ones behind not. */
        private boolean formula(int level, int depth) {
            if (level >= UNIT_LEVEL) {
                return unit(depth);
            }
            if (level == ONE_LEVEL && tape.isKeyword(Tape.NOT)) {
                return negated(depth);
            }
            if (!formula(level + 1, depth)) {
                return false;
            }
            int most = level == ONE_LEVEL ? 1 : Tape.MOST;
            for (int i = 0; i < most && isOperator(level); i++) {
                int sign = (int) tape.value;
                tape.step();
                if (!formula(level + 1, depth)) {
                    return false;
                }
                net.emit(Net.OPERATOR + sign);
            }
            return true;
        }

        private boolean negated(int depth) {
            if (depth > DEEPEST) {
                return fail(OUT_OF_PLACE);
            }
            tape.step();
            if (!formula(ONE_LEVEL, depth + 1)) {
                return false;
            }
            net.emit(Net.OPERATOR + Tape.NOT);
            return true;
        }

        private boolean isOperator(int level) {
            switch (level) {
                case OR_LEVEL: return tape.isKeyword(Tape.OR);
                case AND_LEVEL: return tape.isKeyword(Tape.AND);
                case ONE_LEVEL: return tape.isSign('<') || tape.isSign('>') || tape.isSign('=');
                case ONE_LEVEL + 1: return tape.isSign('+') || tape.isSign('-');
                default: return tape.isSign('*') || tape.isSign('/') || tape.isSign('%');
            }
        }

        private boolean unit(int depth) {
            boolean isNested = tape.isSign('(');
            boolean isUnit = isNested || tape.kind == Tape.NAME || tape.kind == Tape.NUMBER;
            boolean isOver = unitsHere == MOST_IN_ONE || net.units == Net.MOST_UNITS;
            if (!isUnit || isOver || (isNested && depth > DEEPEST)) {
                return fail(OUT_OF_PLACE);
            }
            unitsHere++;
            net.units++;
            if (isNested) {
                tape.step();
                return formula(OR_LEVEL, depth + 1) && takeSign(')');
            }
            if (tape.kind == Tape.NUMBER) {
                net.emit((int) tape.value);
            } else {
                int start = startHere();
                if (start == NONE) {
                    return fail(UNKNOWN);
                }
                net.emit(Net.OF_START + start);
            }
            tape.step();
            return true;
        }

        private int find(long[] names, int many) {
            for (int i = 0; i < many && i < names.length; i++) {
                if (names[i] == tape.value) {
                    return i;
                }
            }
            return NONE;
        }

        private int towerHere() {
            return find(towerNames, net.towers);
        }

        private int startHere() {
            for (int start = 0; start < net.starts; start++) {
                if (towerNames[net.startTowers[start]] == tape.value) {
                    return start;
                }
            }
            return NONE;
        }

        private boolean isTowerHere(int found) {
            if (tape.kind != Tape.NAME) {
                return fail(OUT_OF_PLACE);
            }
            return found != NONE || fail(UNKNOWN);
        }

        private boolean takeWord(int word) {
            if (!tape.isKeyword(word)) {
                return fail(OUT_OF_PLACE);
            }
            tape.step();
            return true;
        }

        private boolean takeSign(int sign) {
            if (!tape.isSign(sign)) {
                return fail(OUT_OF_PLACE);
            }
            tape.step();
            return true;
        }

        private boolean takeNumber(int least, int most) {
            if (tape.kind != Tape.NUMBER) {
                return fail(OUT_OF_PLACE);
            }
            number = (int) tape.value;
            if (number < least || number > most) {
                return fail(BAD_NUMBER);
            }
            tape.step();
            return true;
        }
    }

    /** Towers, ways, and claims as formulas whose operators stand behind what they bind. */
    private static final class Net {
        static final int MOST_TOWERS = 10;
        static final int MOST_STARTS = 3;
        static final int MOST_WAYS = 16;
        static final int MOST_CLAIMS = 6;
        static final int MOST_UNITS = 90;
        private static final int MOST_VALUES = 32;

        static final int START = 0;
        static final int SPLIT = 2;
        static final int ODD = 3;
        static final int DUSK = 4;
        static final int POND = 5;
        static final int FOX = 6;
        static final int BREAD = 7;
        static final int WIND = 8;

        // Below OF_START a code is a number itself: a text's numbers have four digits at most.
        static final int OF_START = 10000;
        static final int OPERATOR = 20000;

        int towers;
        final int[] sorts;
        final int[] sizes;
        final int[] first;
        final int[] second;
        int starts;
        final int[] startTowers;
        int ways;
        final int[] from;
        final int[] to;
        final int[] beats;
        int claims;
        final int[] claimDusks;
        private final int[] codeEnds;
        private final int[] code;
        private int codes;
        private final int[] values;
        int units;
        int draw;

        Net() {
            sorts = new int[MOST_TOWERS];
            sizes = new int[MOST_TOWERS];
            first = new int[MOST_TOWERS];
            second = new int[MOST_TOWERS];
            startTowers = new int[MOST_STARTS];
            from = new int[MOST_WAYS];
            to = new int[MOST_WAYS];
            beats = new int[MOST_WAYS];
            claimDusks = new int[MOST_CLAIMS];
            codeEnds = new int[MOST_CLAIMS];
            // One code a token at most.
            code = new int[Tape.MOST];
            values = new int[MOST_VALUES];
        }

        void clear() {
            towers = 0;
            starts = 0;
            ways = 0;
            claims = 0;
            codes = 0;
            units = 0;
            draw = 0;
        }

        void addTower(int sort, int size) {
            if (towers >= MOST_TOWERS) {
                return;
            }
            sorts[towers] = sort;
            sizes[towers] = size;
            first[towers] = NONE;
            second[towers] = NONE;
            if (sort == START && starts < MOST_STARTS) {
                startTowers[starts] = towers;
                starts++;
            }
            towers++;
        }

        boolean hasRoomForWay(int tower) {
            int sort = sorts[tower];
            if (sort == DUSK) {
                return false;
            }
            return first[tower] == NONE || ((sort == SPLIT || sort == ODD) && second[tower] == NONE);
        }

        void addWay(int out, int into, int length) {
            if (ways >= MOST_WAYS) {
                return;
            }
            from[ways] = out;
            to[ways] = into;
            beats[ways] = length;
            if (first[out] == NONE) {
                first[out] = ways;
            } else {
                second[out] = ways;
            }
            ways++;
        }

        void addClaim(int dusk) {
            if (claims < MOST_CLAIMS) {
                claimDusks[claims] = dusk;
                codeEnds[claims] = codes;
                claims++;
            }
        }

        void emit(int what) {
            if (codes < Tape.MOST) {
                code[codes] = what;
                codes++;
            }
        }

        /** How many rows of 0 .. m there are. */
        int rows(int m) {
            int rows = 1;
            for (int start = 0; start < starts; start++) {
                rows *= m + 1;
            }
            return rows;
        }

        /** The row of 0 .. m with a given index: start 0 counts most. */
        void setRow(int[] row, int m, int index) {
            int base = Math.max(1, m + 1);
            int rest = index;
            for (int start = starts - 1; start >= 0; start--) {
                row[start] = rest % base;
                rest /= base;
            }
        }

        /** What a claim says of a row. */
        int value(int claim, int[] row) {
            int many = 0;
            int behind = codeEnds[claim];
            for (int i = claim == 0 ? 0 : codeEnds[claim - 1]; i < behind; i++) {
                int what = code[i];
                if (what < OPERATOR && many < MOST_VALUES) {
                    values[many] = what < OF_START ? what : row[what - OF_START];
                    many++;
                } else if (what == OPERATOR + Tape.NOT && many >= 1) {
                    values[many - 1] = values[many - 1] == 0 ? 1 : 0;
                } else if (many >= 2) {
                    values[many - 2] = joined(what - OPERATOR, values[many - 2], values[many - 1]);
                    many--;
                }
            }
            return values[0];
        }

        private static int joined(int sign, int a, int b) {
            switch (sign) {
                case Tape.OR: return a != 0 || b != 0 ? 1 : 0;
                case Tape.AND: return a != 0 && b != 0 ? 1 : 0;
                case '<': return a < b ? 1 : 0;
                case '>': return a > b ? 1 : 0;
                case '=': return a == b ? 1 : 0;
                case '+': return a + b;
                case '-': return a - b;
                case '*': return a * b;
                case '/': return b == 0 ? 0 : a / b;
                default: return b == 0 ? 0 : a % b;
            }
        }
    }

    /** All geese there are, and where. */
    private static final class Sky {
        static final int MOST = 999999;
        static final int FARTHEST = 12;
        // More than FARTHEST, so that no two numbers of beats left share a slot.
        private static final int SLOTS = 16;

        // By way, and by the beat of arrival modulo SLOTS: so a beat moves only those that arrive.
        private final int[] on;
        private final int[] arriving;
        final int[] there;
        final int[] came;
        int begun;
        int bred;
        int flying;
        int lost;
        int taken;
        int seed;
        int beats;

        Sky() {
            on = new int[Net.MOST_WAYS * SLOTS];
            arriving = new int[Net.MOST_TOWERS];
            there = new int[Net.MOST_TOWERS];
            came = new int[Net.MOST_TOWERS];
        }

        void clear(int withSeed) {
            for (int i = 0; i < on.length; i++) {
                on[i] = 0;
            }
            for (int i = 0; i < Net.MOST_TOWERS; i++) {
                there[i] = 0;
                came[i] = 0;
            }
            begun = 0;
            bred = 0;
            flying = 0;
            lost = 0;
            taken = 0;
            seed = withSeed;
            beats = 0;
        }

        void copy(Sky other) {
            System.arraycopy(other.on, 0, on, 0, on.length);
            System.arraycopy(other.there, 0, there, 0, Net.MOST_TOWERS);
            System.arraycopy(other.came, 0, came, 0, Net.MOST_TOWERS);
            begun = other.begun;
            bred = other.bred;
            flying = other.flying;
            lost = other.lost;
            taken = other.taken;
            seed = other.seed;
            beats = other.beats;
        }

        private int slot(int way, int left) {
            return way * SLOTS + (beats + left) % SLOTS;
        }

        int left(int way, int left) {
            return on[slot(way, left)];
        }

        int onWay(int way) {
            int many = 0;
            for (int left = 1; left <= FARTHEST; left++) {
                many += on[slot(way, left)];
            }
            return many;
        }

        int atTowers() {
            int many = 0;
            for (int tower = 0; tower < Net.MOST_TOWERS; tower++) {
                many += there[tower];
            }
            return many;
        }

        void settle(int tower, int n) {
            there[tower] += n;
            begun += n;
        }

        /** One goose on a way, with so many beats left, is lost. */
        void lose(int way, int left) {
            on[slot(way, left)]--;
            flying--;
            lost++;
        }

        void pass(Net net) {
            beats++;
            gather(net);
            for (int tower = 0; tower < net.towers; tower++) {
                work(net, tower);
            }
        }

        private void gather(Net net) {
            for (int tower = 0; tower < net.towers; tower++) {
                arriving[tower] = 0;
            }
            for (int start = 0; start < net.starts; start++) {
                int tower = net.startTowers[start];
                arriving[tower] = there[tower];
                there[tower] = 0;
            }
            for (int way = 0; way < net.ways; way++) {
                int at = slot(way, 0);
                arriving[net.to[way]] += on[at];
                flying -= on[at];
                on[at] = 0;
            }
        }

        private void work(Net net, int tower) {
            int size = net.sizes[tower];
            int first = net.first[tower];
            int flock = arriving[tower];
            int all = flock + there[tower];
            if (flock > 0) {
                came[tower]++;
            }
            switch (net.sorts[tower]) {
                case Net.SPLIT:
                    // Who circles alone, is not halved and stays.
                    there[tower] = all % 2;
                    setOut(net, first, all / 2);
                    setOut(net, net.second[tower], all / 2);
                    break;
                case Net.ODD:
                    setOut(net, flock % 2 == 1 ? first : net.second[tower], flock);
                    break;
                case Net.DUSK:
                    there[tower] = all;
                    break;
                case Net.POND:
                    // With or without a flock.
                    there[tower] = all < size ? all : all - size;
                    setOut(net, first, all - there[tower]);
                    break;
                case Net.FOX:
                    taken += Math.min(size, flock);
                    setOut(net, first, flock - size);
                    break;
                case Net.BREAD:
                    bred += flock > 0 ? size : 0;
                    setOut(net, first, flock > 0 ? flock + size : 0);
                    break;
                case Net.WIND:
                    int rest = size > 0 ? flock % size : 0;
                    lost += rest;
                    setOut(net, first, flock - rest);
                    break;
                default:
                    setOut(net, first, flock);
                    break;
            }
        }

        private void setOut(Net net, int way, int n) {
            if (n <= 0) {
                return;
            }
            if (way == NONE) {
                lost += n;
                return;
            }
            int fly = n < MOST ? n : MOST;
            lost += n - fly;
            flying += fly;
            on[way * SLOTS + (beats + net.beats[way]) % SLOTS] += fly;
        }

        /** A gust over so many ways: the way that it is on. */
        int blow(int ways) {
            seed = (seed * 137 + 71) % 1000;
            int way = ways > 0 ? seed % ways : 0;
            on[slot(way, FARTHEST)] += on[slot(way, FARTHEST - 1)];
            for (int left = FARTHEST - 1; left > 1; left--) {
                on[slot(way, left)] = on[slot(way, left - 1)];
            }
            on[slot(way, 1)] = 0;
            return way;
        }

        /** Whether nobody is on a way, waits, and no pond has its N. */
        boolean isStill(Net net) {
            if (flying > 0) {
                return false;
            }
            for (int tower = 0; tower < net.towers; tower++) {
                int sort = net.sorts[tower];
                if (sort == Net.START && there[tower] > 0) {
                    return false;
                }
                if (sort == Net.POND && there[tower] >= net.sizes[tower]) {
                    return false;
                }
            }
            return true;
        }
    }

    /** The sky in earnest, in a ring of skies: those behind it can be gone back to, those ahead gone on to. */
    private static final class Acts {
        static final int MOST = 40;

        private final Sky[] skies;
        private int here;
        int undoable;
        int redoable;

        Acts() {
            skies = new Sky[MOST + 1];
            for (int i = 0; i <= MOST; i++) {
                skies[i] = new Sky();
            }
        }

        Sky now() {
            return skies[here];
        }

        /** The sky to be changed by a new act. */
        Sky goOn() {
            Sky before = skies[here];
            here = here < MOST ? here + 1 : 0;
            skies[here].copy(before);
            undoable = Math.min(MOST, undoable + 1);
            redoable = 0;
            return skies[here];
        }

        boolean takeBack() {
            if (undoable == 0) {
                return false;
            }
            here = here > 0 ? here - 1 : MOST;
            undoable--;
            redoable++;
            return true;
        }

        boolean doAgain() {
            if (redoable == 0) {
                return false;
            }
            here = here < MOST ? here + 1 : 0;
            undoable++;
            redoable--;
            return true;
        }

        void restart(int seed) {
            skies[here].clear(seed);
            undoable = 0;
            redoable = 0;
        }

        void restartFrom(Sky sky) {
            skies[here].copy(sky);
            undoable = 0;
            redoable = 0;
        }
    }

    /** Flies rows from an empty sky. */
    private static final class Trial {
        private static final int LAST_STILL = 200;
        private static final int MOST_ADDED = 40;

        final Sky sky;
        private final Sky other;
        private final int[] lone;
        private final int[] reckonings;

        Trial() {
            sky = new Sky();
            other = new Sky();
            lone = new int[Net.MOST_STARTS];
            reckonings = new int[MOST_ADDED + 1];
        }

        void open(Net net, int[] row) {
            sky.clear(0);
            for (int start = 0; start < net.starts; start++) {
                sky.settle(net.startTowers[start], row[start]);
            }
        }

        int reckoned(Net net, int[] row, int dusk, int beats) {
            open(net, row);
            for (int i = 0; i < beats && !sky.isStill(net); i++) {
                sky.pass(net);
            }
            return sky.there[dusk];
        }

        int stillAt(Net net, int[] row) {
            open(net, row);
            for (int beat = 0; beat <= LAST_STILL; beat++) {
                if (sky.isStill(net)) {
                    return beat;
                }
                sky.pass(net);
            }
            return NONE;
        }

        /** What is reckoned if one of those that have just set out on a way is lost. */
        private int reckonedWithout(Net net, int way, int dusk, int beats) {
            other.copy(sky);
            other.lose(way, net.beats[way]);
            for (int i = 0; i < beats && !other.isStill(net); i++) {
                other.pass(net);
            }
            return other.there[dusk];
        }

        /** No winds blow here, so who has a way's whole length left has just set out. */
        private boolean hasSetOut(Net net, int way) {
            return sky.left(way, net.beats[way]) > 0;
        }

        int lossOf(Net net, int[] row, int way, int beat, int dusk, int beats) {
            int whole = reckoned(net, row, dusk, beats);
            open(net, row);
            for (int i = 0; i < beat; i++) {
                sky.pass(net);
            }
            if (!hasSetOut(net, way)) {
                return 0;
            }
            return whole - reckonedWithout(net, way, dusk, beats - beat);
        }

        int unseen(Net net, int[] row, int dusk, int beats) {
            int whole = reckoned(net, row, dusk, beats);
            int many = 0;
            open(net, row);
            for (int beat = 1; beat <= beats && !sky.isStill(net); beat++) {
                sky.pass(net);
                for (int way = 0; way < net.ways; way++) {
                    if (hasSetOut(net, way) && reckonedWithout(net, way, dusk, beats - beat) == whole) {
                        many++;
                    }
                }
            }
            return many;
        }

        int unadded(Net net, int start, int dusk, int m, int beats, int what) {
            for (int i = 0; i < Net.MOST_STARTS; i++) {
                lone[i] = 0;
            }
            for (int n = 1; n <= m && n <= MOST_ADDED; n++) {
                lone[start] = n;
                reckonings[n] = reckoned(net, lone, dusk, beats);
            }
            int many = 0;
            for (int a = 1; a <= m && m <= MOST_ADDED; a++) {
                for (int b = a; b <= m - a; b++) {
                    if (reckonings[a + b] != reckonings[a] + reckonings[b]) {
                        if (what > 0) {
                            return what == 1 ? a : b;
                        }
                        many++;
                    }
                }
            }
            return what > 0 ? NONE : many;
        }
    }

    /** Tries a claim on all rows. */
    private static final class Claims {
        static final int MOST_ROWS = 1000;
        static final int MOST_ROWS_TO_MEND = 16;
        private static final int MOST_MENDED = 2;
        private static final int LONGEST_WAY = 9;

        private final Trial trial;
        private final Paths paths;
        private final Lying lying;
        private final int[] row;
        private int claim;
        private int m;
        private int beats;
        private int rows;
        private int suspect;
        private int useful;

        Claims(Trial trial, Paths paths, Lying lying) {
            this.trial = trial;
            this.paths = paths;
            this.lying = lying;
            row = new int[Net.MOST_STARTS];
        }

        /** Sets what the other methods are about; how many rows that are. */
        int ask(Net net, int aboutClaim, int upTo, int behindBeats) {
            claim = aboutClaim;
            m = upTo;
            beats = behindBeats;
            rows = net.rows(m);
            suspect = 0;
            // The beats of all other ways change nothing at the dusk, alone or beside another one's.
            useful = paths.between(net, net.claimDusks[claim]);
            return rows;
        }

        /** The first wrong one of so many rows, from one on and round; it is in row then. */
        private int wrongFrom(Net net, int from, int many) {
            for (int i = 0; i < many; i++) {
                int index = from + i < rows ? from + i : from + i - rows;
                net.setRow(row, m, index);
                if (net.value(claim, row) != trial.reckoned(net, row, net.claimDusks[claim], beats)) {
                    return index;
                }
            }
            return NONE;
        }

        int wrongOnes(Net net) {
            int many = 0;
            for (int i = 0; i < rows; i++) {
                if (wrongFrom(net, i, 1) != NONE) {
                    many++;
                }
            }
            return many;
        }

        int firstAgainst(Net net) {
            int index = wrongFrom(net, 0, rows);
            for (int start = 0; start < net.starts && index != NONE; start++) {
                lying.put(row[start]);
            }
            return index;
        }

        int fewestToMend(Net net) {
            for (int many = 0; many <= MOST_MENDED; many++) {
                if (mendFrom(net, 0, many)) {
                    return many;
                }
            }
            return NONE;
        }

        /** Gives so many ways, from one on, other beats, and takes them back: what mended lies there then. */
        private boolean mendFrom(Net net, int from, int many) {
            if (many <= 0 || many > MOST_MENDED) {
                int wrong = wrongFrom(net, suspect, rows);
                // Tried first the next time: most often it is wrong again.
                suspect = wrong == NONE ? suspect : wrong;
                return many == 0 && wrong == NONE;
            }
            for (int way = from; way < net.ways; way++) {
                boolean isUseful = (useful >> way & 1) == 1;
                int was = net.beats[way];
                boolean found = false;
                for (int b = 1; b <= LONGEST_WAY && isUseful && !found; b++) {
                    net.beats[way] = b;
                    lying.put(10 * way + b);
                    found = b != was && mendFrom(net, way + 1, many - 1);
                    lying.many -= found ? 0 : 1;
                }
                net.beats[way] = was;
                if (found) {
                    return true;
                }
            }
            return false;
        }
    }

    /** Rows of ways, one behind the other. */
    private static final class Paths {
        static final int MOST_BEATS = 60;
        private static final int MOST = 1000000000;

        // By beats and by tower: how many paths of so many beats lead from there to the target.
        private final int[][] counts;
        // By tower: where paths of more than no beats lead from there, as bits.
        private final int[] reach;

        Paths() {
            counts = new int[MOST_BEATS + 1][Net.MOST_TOWERS];
            reach = new int[Net.MOST_TOWERS];
        }

        private void fill(Net net, int target) {
            for (int t = 0; t <= MOST_BEATS; t++) {
                for (int tower = 0; tower < net.towers; tower++) {
                    counts[t][tower] = t == 0 && tower == target ? 1 : 0;
                }
                for (int way = 0; way < net.ways; way++) {
                    if (net.beats[way] <= t) {
                        int from = net.from[way];
                        // Two numbers up to MOST fit in an int together.
                        int sum = counts[t][from] + counts[t - net.beats[way]][net.to[way]];
                        counts[t][from] = Math.min(MOST, sum);
                    }
                }
            }
        }

        int count(Net net, int from, int to, int beats) {
            fill(net, to);
            return counts[beats][from];
        }

        int firstMeeting(Net net, int one, int other, int at) {
            fill(net, at);
            for (int t = 0; t <= MOST_BEATS; t++) {
                if (counts[t][one] > 0 && counts[t][other] > 0) {
                    return t;
                }
            }
            return NONE;
        }

        int lengths(Net net, int from, int to) {
            fill(net, to);
            int many = 0;
            for (int t = 0; t <= MOST_BEATS; t++) {
                if (counts[t][from] > 0) {
                    many++;
                }
            }
            return many;
        }

        private void close(Net net) {
            for (int tower = 0; tower < net.towers; tower++) {
                reach[tower] = 0;
            }
            for (int way = 0; way < net.ways; way++) {
                reach[net.from[way]] |= 1 << net.to[way];
            }
            for (int by = 0; by < net.towers; by++) {
                for (int tower = 0; tower < net.towers; tower++) {
                    if ((reach[tower] >> by & 1) == 1) {
                        reach[tower] |= reach[by];
                    }
                }
            }
        }

        int returning(Net net) {
            close(net);
            int bits = 0;
            for (int tower = 0; tower < net.towers; tower++) {
                bits |= reach[tower] & 1 << tower;
            }
            return bits;
        }

        /** The ways that geese from starts can fly on to a dusk, as bits. */
        int between(Net net, int dusk) {
            close(net);
            int begun = 0;
            for (int start = 0; start < net.starts; start++) {
                int tower = net.startTowers[start];
                begun |= reach[tower] | 1 << tower;
            }
            int bits = 0;
            for (int way = 0; way < net.ways; way++) {
                int beyond = reach[net.to[way]] | 1 << net.to[way];
                if ((begun >> net.from[way] & 1) == 1 && (beyond >> dusk & 1) == 1) {
                    bits |= 1 << way;
                }
            }
            return bits;
        }
    }

    /** Pairs, and the shortest chain of towers for them. */
    private static final class Chain {
        static final int MOST_PAIRS = 4;
        static final int LONGEST = 8;
        private static final int SORTS = 4;

        int many;
        private final int[] wanted;
        // By how many towers are behind, and by pair.
        private final int[][] values;
        private final int[] sorts;
        private final Lying lying;

        Chain(Lying lying) {
            this.lying = lying;
            wanted = new int[MOST_PAIRS];
            values = new int[LONGEST + 1][MOST_PAIRS];
            sorts = new int[LONGEST];
        }

        int want(int of, int that) {
            if (many >= MOST_PAIRS) {
                return NONE;
            }
            values[0][many] = of;
            wanted[many] = that;
            many++;
            return many;
        }

        int shortest() {
            for (int length = 0; length <= LONGEST; length++) {
                if (search(0, length)) {
                    for (int i = 0; i < length; i++) {
                        lying.put(sorts[i]);
                    }
                    return length;
                }
            }
            return NONE;
        }

        /** Goes on from the values at a depth with so many towers more. */
        private boolean search(int depth, int left) {
            if (!isInReach(depth, left)) {
                return false;
            }
            if (left <= 0 || depth >= LONGEST) {
                return left == 0;
            }
            for (int sort = 0; sort < SORTS; sort++) {
                for (int i = 0; i < many; i++) {
                    values[depth + 1][i] = made(sort, values[depth][i]);
                }
                sorts[depth] = sort;
                if (search(depth + 1, left - 1)) {
                    return true;
                }
            }
            return false;
        }

        /** No tower makes less than half or more than twice (of 0: 1), and more makes more: with none left, it is made. */
        private boolean isInReach(int depth, int left) {
            for (int i = 0; i < many; i++) {
                int value = values[depth][i];
                int most = value;
                for (int k = 0; k < left && k < LONGEST; k++) {
                    most = Math.max(most + 1, 2 * most);
                }
                if (wanted[i] < value >> left || wanted[i] > most) {
                    return false;
                }
            }
            return true;
        }

        private static int made(int sort, int value) {
            switch (sort) {
                case 0: return value / 2;
                case 1: return value + 1;
                case 2: return Math.max(0, value - 1);
                default: return value * 2;
            }
        }
    }

    /** What was seen, told and untold at times, and the rows that are so. */
    private static final class Sights {
        static final int MOST_BEATS = 60;
        static final int MOST_M = 9;
        private static final int MOST = 20;
        // Times are 0 at least.
        private static final int NEVER = -1;

        int many;
        private final int[] dusks;
        private final int[] beats;
        private final int[] seen;
        private final int[] told;
        private final int[] untold;
        private final Trial trial;
        private final int[] row;
        // What the latest survey found: how many rows, the first, where others are unlike it.
        int rows;
        final int[] first;
        final boolean[] unlike;

        Sights(Trial trial) {
            this.trial = trial;
            dusks = new int[MOST];
            beats = new int[MOST];
            seen = new int[MOST];
            told = new int[MOST];
            untold = new int[MOST];
            row = new int[Net.MOST_STARTS];
            first = new int[Net.MOST_STARTS];
            unlike = new boolean[Net.MOST_STARTS];
        }

        int tell(int dusk, int behind, int so, int time) {
            if (many >= MOST) {
                return NONE;
            }
            dusks[many] = dusk;
            beats[many] = behind;
            seen[many] = so;
            told[many] = time;
            untold[many] = NEVER;
            many++;
            return many - 1;
        }

        boolean takeBack(int sight, int time) {
            if (sight < 0 || sight >= many || untold[sight] != NEVER) {
                return false;
            }
            untold[sight] = time;
            return true;
        }

        private boolean isKnown(int sight, int k) {
            return told[sight] <= k && (untold[sight] == NEVER || untold[sight] > k);
        }

        void survey(Net net, int m, int k) {
            rows = 0;
            int all = net.rows(m);
            for (int i = 0; i < all; i++) {
                net.setRow(row, m, i);
                if (isSo(net, k)) {
                    for (int start = 0; start < net.starts; start++) {
                        first[start] = rows == 0 ? row[start] : first[start];
                        unlike[start] = rows > 0 && (unlike[start] || row[start] != first[start]);
                    }
                    rows++;
                }
            }
        }

        private boolean isSo(Net net, int k) {
            trial.open(net, row);
            int last = 0;
            for (int i = 0; i < many; i++) {
                last = isKnown(i, k) ? Math.max(last, beats[i]) : last;
            }
            for (int t = 1; t <= last; t++) {
                if (!trial.sky.isStill(net)) {
                    trial.sky.pass(net);
                }
                for (int i = 0; i < many; i++) {
                    if (beats[i] == t && isKnown(i, k) && trial.sky.there[dusks[i]] != seen[i]) {
                        return false;
                    }
                }
            }
            return true;
        }
    }
}
