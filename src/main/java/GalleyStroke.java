import java.util.Arrays;

/**
 * Rowers on benches one behind the other, who row by laws that are told as texts.
 * What each call answers stands in the project's document, promise by promise.
 */
public final class GalleyStroke {
    public static final int NONE = -1;

    private static final int NOT_SO = -2;
    private static final int TAPE_ROOM = 2000;
    private static final int FED_AT_ONCE = 20;
    private static final int MOST_LAWS = 6;
    private static final int MOST_MEN = 12;
    private static final int MOST_FOGS = 4;
    private static final int MOST_TOKENS = 400;
    private static final int MOST_PARTS = 24;
    private static final int MOST_ROWED = 100;
    private static final int MOST_TOLD = 20;
    private static final int SLOTS = 3;

    private final byte[] tape = new byte[TAPE_ROOM];
    private int taped;
    private Text text = new Text();
    private Text spare = new Text();
    private final Reader reader = new Reader(tape, spare);
    private final Rowing rowing = new Rowing(text);
    private final Crew crew = new Crew();
    private final Crew[] slots = new Crew[SLOTS];
    private final Past past = new Past();
    private final Seats seats = new Seats(rowing);
    private final Beginnings beginnings = new Beginnings(rowing);
    private final Voyage voyage = new Voyage(rowing);
    private final Witness witness = new Witness(rowing);

    public GalleyStroke() {
        for (int slot = 0; slot < SLOTS; slot++) {
            slots[slot] = new Crew();
        }
        crew.begin(text);
    }

    public int feed(int a, int b, int c, int d, int e) {
        if (taped > TAPE_ROOM - FED_AT_ONCE) {
            return NONE;
        }
        tapeWord(a);
        tapeWord(b);
        tapeWord(c);
        tapeWord(d);
        tapeWord(e);
        return taped;
    }

    private void tapeWord(int word) {
        for (int shift = 24; shift >= 0; shift -= 8) {
            tape[taped] = (byte) (word >>> shift);
            taped++;
        }
    }

    public int back(int n) {
        if (n < 0 || n > taped) {
            return NONE;
        }
        taped -= n;
        return taped;
    }

    public int read() {
        // The text is read into the spare one, so that a fault leaves the text in place untouched.
        int fault = reader.readTape(taped, spare);
        taped = 0;
        if (fault == 0) {
            putSpareInPlace();
        }
        return fault;
    }

    private void putSpareInPlace() {
        Text old = text;
        text = spare;
        spare = old;
        rowing.text = text;
        crew.begin(text);
        past.clear();
        witness.told = 0;
        for (int slot = 0; slot < SLOTS; slot++) {
            slots[slot].held = false;
        }
    }

    public int place() {
        return reader.place;
    }

    public int bench(int bench, int what) {
        if (!isBench(bench)) {
            return NONE;
        }
        int time = timeAt(crew.times, bench);
        switch (what) {
            case 0:
                return time;
            case 1:
                return crew.men[bench];
            case 2:
                return crew.laws[bench];
            case 3:
                return rowing.heard(bench, time, crew.drum, text.isFog(crew.stroke));
            default:
                return NONE;
        }
    }

    private boolean isBench(int bench) {
        return bench >= 0 && bench < text.men;
    }

    public int row(int n) {
        if (n < 0 || n > MOST_ROWED) {
            return NONE;
        }
        for (int i = 0; i < n; i++) {
            past.keep(crew.times);
            crew.times = rowing.stroke(crew.times, crew.laws, crew.drum, text.isFog(crew.stroke));
            crew.stroke++;
        }
        return crew.stroke;
    }

    public boolean undo() {
        if (past.kept == 0) {
            return false;
        }
        crew.times = past.takeLast();
        crew.stroke--;
        return true;
    }

    public int clashes() {
        return rowing.clashBits(crew.times);
    }

    public int way(int what) {
        if (what < 0 || what > 1 || text.men == 0) {
            return NONE;
        }
        int part = rowing.wayPart(crew.times);
        return what == 0 ? rowing.menNear(part) : part;
    }

    public int wave(int what) {
        if (what < 0 || what > 2) {
            return NONE;
        }
        return rowing.waveOf(crew.times, what);
    }

    public int soon(int k) {
        if (k < 1 || k > text.men) {
            return NONE;
        }
        long times = crew.times;
        for (int strokes = 0; strokes <= MOST_ROWED; strokes++) {
            if (rowing.wayOf(times) >= k) {
                return strokes;
            }
            times = rowing.stroke(times, crew.laws, crew.drum, text.isFog(crew.stroke + strokes));
        }
        return NOT_SO;
    }

    public int rubs(int n) {
        if (n < 1 || n > MOST_ROWED) {
            return NONE;
        }
        return rowing.mostClashing(crew, n);
    }

    public int still() {
        return rowing.stroke(crew.times, crew.laws, crew.drum, false) == crew.times ? 1 : 0;
    }

    public int round(int what) {
        if (what < 0 || what > 1) {
            return NONE;
        }
        if (!voyage.findRound(crew)) {
            return NOT_SO;
        }
        return what == 0 ? voyage.period : voyage.lead;
    }

    public boolean change(int bench, int other) {
        if (!isBench(bench) || !isBench(other) || bench == other) {
            return false;
        }
        crew.exchange(bench, other);
        return true;
    }

    public boolean teach(int bench, int law) {
        if (!isBench(bench) || law < 0 || law >= text.laws) {
            return false;
        }
        crew.laws[bench] = law;
        return true;
    }

    public boolean set(int bench, int time) {
        if (!isBench(bench) || time < 0 || time >= text.parts) {
            return false;
        }
        crew.times = withTime(crew.times, bench, time);
        return true;
    }

    public boolean beat(int x) {
        if (x < 0 || x >= text.parts) {
            return false;
        }
        crew.drum = x;
        return true;
    }

    public int seating(int what, int n) {
        if (!Seats.isAim(what, n) || text.men == 0) {
            return NONE;
        }
        if (text.men > Seats.MOST_SEATED) {
            return NOT_SO;
        }
        return seats.bestOrder(crew, what, n);
    }

    public int seat(int what, int n, int bench) {
        if (!Seats.isAim(what, n) || !isBench(bench)) {
            return NONE;
        }
        if (text.men > Seats.MOST_SEATED) {
            return NOT_SO;
        }
        seats.bestOrder(crew, what, n);
        return seats.best[bench];
    }

    public int better(int what, int n) {
        if (!Seats.isAim(what, n) || text.men == 0) {
            return NONE;
        }
        return seats.bestExchange(crew, what, n);
    }

    public int every(int law, int m, int what) {
        if (law < 0 || law >= text.laws || m < 1 || m > Beginnings.MOST_ROWERS || what < 0 || what > 2) {
            return NONE;
        }
        int all = beginnings.howMany(m);
        if (all > Beginnings.MOST) {
            return NOT_SO;
        }
        if (what == 2) {
            return all;
        }
        beginnings.prove(law, m, crew.drum);
        return what == 0 ? beginnings.settling : beginnings.longest;
    }

    public int ram(int n, int what) {
        if (n < 1 || n > Voyage.MOST_TO_RAM || what < 0 || what > 2 || text.men == 0) {
            return NONE;
        }
        if (crew.drum < 0) {
            return NOT_SO;
        }
        voyage.planRam(crew, n);
        if (what == 0) {
            return voyage.ramWay;
        }
        return what == 1 ? voyage.ramFrom : voyage.ramBeat;
    }

    public long odds(int n, int a, int b) {
        if (n < 1 || n > Voyage.MOST_OF_ODDS || b < 1 || b > 9 || a < 0 || a > b || text.men == 0) {
            return NONE;
        }
        return voyage.weighed(crew, crew.times, n, a, b);
    }

    public int tell(int stroke, int bench, boolean clashed) {
        if (witness.told >= MOST_TOLD || !Witness.isStroke(stroke) || bench < 1 || !isBench(bench)) {
            return NONE;
        }
        return witness.note(stroke, bench, clashed);
    }

    public int forget() {
        int there = witness.told;
        witness.told = 0;
        return there;
    }

    public int suspects(int n, int k) {
        return witness.isQuestion(n, k) ? witness.countSets(n, k) : NONE;
    }

    public int suspect(int n, int k, int i) {
        return witness.isQuestion(n, k) && i >= 0 ? witness.setNumber(n, k, i) : NONE;
    }

    public int check(int n, int k, int stroke) {
        if (!witness.isQuestion(n, k) || !Witness.isStroke(stroke)) {
            return NONE;
        }
        return witness.evenestBench(n, k, stroke);
    }

    public boolean hold(int slot) {
        if (slot < 0 || slot >= SLOTS) {
            return false;
        }
        slots[slot].take(crew);
        slots[slot].held = true;
        return true;
    }

    public boolean restore(int slot) {
        if (slot < 0 || slot >= SLOTS || !slots[slot].held) {
            return false;
        }
        crew.take(slots[slot]);
        past.clear();
        return true;
    }

    public int count(int what) {
        switch (what) {
            case 0:
                return text.parts;
            case 1:
                return text.laws;
            case 2:
                return text.men;
            case 3:
                return crew.stroke;
            case 4:
                return orNotSo(crew.drum);
            case 5:
                return text.lag;
            case 6:
                return orNotSo(text.song);
            case 7:
                return text.fogs;
            case 8:
                return taped;
            case 9:
                return past.kept;
            case 10:
                return witness.told;
            case 11:
                return heldSlots();
            case 12:
                return text.isFog(crew.stroke) ? 1 : 0;
            default:
                return NONE;
        }
    }

    private static int orNotSo(int part) {
        return part < 0 ? NOT_SO : part;
    }

    private int heldSlots() {
        int held = 0;
        for (int slot = 0; slot < SLOTS; slot++) {
            if (slots[slot].held) {
                held++;
            }
        }
        return held;
    }

    // All TIMES stand in one long, five bits a bench: they are compared at once, and a stroke makes no object.

    private static int timeAt(long times, int bench) {
        return (int) (times >>> (5 * bench)) & 31;
    }

    private static long withTime(long times, int bench, int time) {
        int shift = 5 * bench;
        return (times & ~(31L << shift)) | ((long) (time & 31) << shift);
    }

    /** The kinds of tokens; those that compute something are the orders of a law's code too. */
    private static final class Kind {
        static final int END = 0;
        static final int BAD = 1;
        static final int NAME = 2;
        static final int INT = 3;
        static final int SEMICOLON = 4;
        static final int ASSIGN = 5;
        static final int COMMA = 6;
        static final int PLUS = 7;
        static final int MINUS = 8;
        static final int STAR = 9;
        static final int SLASH = 10;
        static final int EQUAL = 11;
        static final int UNEQUAL = 12;
        static final int LESS = 13;
        static final int LESS_EQUAL = 14;
        static final int OPEN = 15;
        static final int CLOSE = 16;

        static final String WORDS =
            "parts law man fog if then else or and not gap own ahead two drum bench song ";
        static final int WORD_COUNT = 17;
        static final int PARTS = 17;
        static final int LAW = 18;
        static final int MAN = 19;
        static final int FOG = 20;
        static final int IF = 21;
        static final int THEN = 22;
        static final int ELSE = 23;
        static final int OR = 24;
        static final int AND = 25;
        static final int NOT = 26;
        static final int GAP = 27;
        static final int OWN = 28;
        static final int AHEAD = 29;
        static final int TWO = 30;
        static final int DRUM = 31;
        static final int BENCH = 32;
        static final int SONG = 33;
        static final int VARS = 6;

        private Kind() {
        }
    }

    /** What a text tells. */
    private static final class Text {
        int parts = MOST_PARTS;
        int laws;
        final int[] lawStarts = new int[MOST_LAWS];
        final int[] code = new int[MOST_TOKENS];
        int codeLength;
        int men;
        final int[] lawOf = new int[MOST_MEN];
        long begins;
        int drum = -1;
        int lag;
        int song = -1;
        int fogs;
        final int[] fogFrom = new int[MOST_FOGS];
        final int[] fogTo = new int[MOST_FOGS];

        void clear() {
            parts = MOST_PARTS;
            laws = 0;
            codeLength = 0;
            men = 0;
            begins = 0;
            drum = -1;
            lag = 0;
            song = -1;
            fogs = 0;
        }

        boolean isFog(int stroke) {
            for (int i = 0; i < fogs; i++) {
                if (fogFrom[i] <= stroke && stroke <= fogTo[i]) {
                    return true;
                }
            }
            return false;
        }
    }

    /** The tape cut into tokens: up to the end, to what is no token, or to the first one too many. */
    private static final class Tokens {
        private static final int LONGEST_NAME = 8;
        private static final int LONGEST_INT = 4;

        private final long[] words = new long[Kind.WORD_COUNT];
        final int[] kinds = new int[MOST_TOKENS + 1];
        final long[] values = new long[MOST_TOKENS + 1];
        final int[] places = new int[MOST_TOKENS + 1];
        private final byte[] tape;
        private int length;
        private int at;
        private long value;

        Tokens(byte[] tape) {
            this.tape = tape;
            int word = 0;
            for (int i = 0; i < Kind.WORDS.length() && word < Kind.WORD_COUNT; i++) {
                if (Kind.WORDS.charAt(i) == ' ') {
                    word++;
                } else {
                    words[word] = withLetter(words[word], Kind.WORDS.charAt(i));
                }
            }
        }

        private static long withLetter(long name, int letter) {
            return name << 5 | (letter - 'a' + 1);
        }

        void cut(int taped) {
            length = Math.min(taped, tape.length);
            at = 0;
            for (int i = 0; i <= MOST_TOKENS; i++) {
                skipBlanks();
                places[i] = at;
                value = 0;
                kinds[i] = nextKind();
                values[i] = value;
                if (kinds[i] == Kind.END || kinds[i] == Kind.BAD) {
                    return;
                }
            }
        }

        private int byteAt(int i) {
            return i < length ? tape[i] & 255 : -1;
        }

        private void skipBlanks() {
            while (at < length && isBlank(byteAt(at))) {
                at++;
            }
        }

        private static boolean isBlank(int sign) {
            return sign == 9 || sign == 10 || sign == 13 || sign == 32;
        }

        private static boolean isLetter(int sign) {
            return sign >= 'a' && sign <= 'z';
        }

        private static boolean isDigit(int sign) {
            return sign >= '0' && sign <= '9';
        }

        private int nextKind() {
            int sign = byteAt(at);
            if (sign < 0) {
                return Kind.END;
            }
            if (isLetter(sign)) {
                return nextWord();
            }
            return isDigit(sign) ? nextInt() : nextSign(sign);
        }

        private int nextWord() {
            int from = at;
            while (at < length && isLetter(byteAt(at))) {
                value = withLetter(value, byteAt(at));
                at++;
            }
            if (at - from > LONGEST_NAME) {
                return Kind.BAD;
            }
            for (int word = 0; word < Kind.WORD_COUNT; word++) {
                if (words[word] == value) {
                    return Kind.PARTS + word;
                }
            }
            return Kind.NAME;
        }

        private int nextInt() {
            int from = at;
            while (at < length && isDigit(byteAt(at))) {
                value = value * 10 + (byteAt(at) - '0');
                at++;
            }
            return at - from > LONGEST_INT ? Kind.BAD : Kind.INT;
        }

        private int nextSign(int sign) {
            at++;
            if (byteAt(at) == '=' && (sign == '=' || sign == '!' || sign == '<')) {
                at++;
                if (sign == '=') {
                    return Kind.EQUAL;
                }
                return sign == '!' ? Kind.UNEQUAL : Kind.LESS_EQUAL;
            }
            switch (sign) {
                case ';':
                    return Kind.SEMICOLON;
                case '=':
                    return Kind.ASSIGN;
                case ',':
                    return Kind.COMMA;
                case '+':
                    return Kind.PLUS;
                case '-':
                    return Kind.MINUS;
                case '*':
                    return Kind.STAR;
                case '/':
                    return Kind.SLASH;
                case '<':
                    return Kind.LESS;
                case '(':
                    return Kind.OPEN;
                case ')':
                    return Kind.CLOSE;
                default:
                    return Kind.BAD;
            }
        }
    }

    /**
     * Reads a tape into a Text and finds its FAULT. A law becomes code for a stack: each word of it is
     * an operand above a Kind. Every token makes one word at most, so the code has room for any text.
     */
    private static final class Reader {
        static final int SYNTAX = 1;
        static final int ROOM = 2;
        static final int TWICE = 3;
        static final int NO_NAME = 4;
        static final int WRONG = 5;
        static final int BEYOND = 6;

        static final int KIND_BITS = 6;
        static final int KIND_MASK = 63;

        private static final int MOST_IFS = 8;
        private static final int DEEPEST = 6;
        private static final int UNIT_LEVEL = 2;
        private static final int LEAST_PARTS = 3;
        private static final int MOST_LAG = 23;
        private static final int LAST_FOG = 999;

        private final Tokens tokens;
        private int at;
        private int kind;
        private Text text;
        private int fault;
        int place = NONE;
        // A slip (TWICE, NAME, WRONG) counts only if the whole text has no fault of SYNTAX or ROOM.
        private int slip;
        private int slipPlace;
        // For every number of parts the first INT that is beyond it: the last PARTS told decides.
        private final int[] beyond = new int[MOST_PARTS + 1];
        private final long[] names = new long[MOST_LAWS + MOST_MEN];
        private final int[] nameLaws = new int[MOST_LAWS + MOST_MEN];
        private int named;

        Reader(byte[] tape, Text into) {
            tokens = new Tokens(tape);
            text = into;
        }

        int readTape(int taped, Text into) {
            begin(taped, into);
            for (int i = 0; i <= MOST_TOKENS && fault == 0 && kind != Kind.END; i++) {
                switch (kind) {
                    case Kind.PARTS:
                        readParts();
                        break;
                    case Kind.LAW:
                        readLaw();
                        break;
                    case Kind.MAN:
                        readMan();
                        break;
                    case Kind.DRUM:
                        readDrum();
                        break;
                    case Kind.SONG:
                        readSong();
                        break;
                    case Kind.FOG:
                        readFog();
                        break;
                    default:
                        fail(SYNTAX);
                        break;
                }
            }
            if (fault == 0) {
                takeLaterFault();
            }
            return fault;
        }

        private void begin(int taped, Text into) {
            text = into;
            text.clear();
            tokens.cut(taped);
            at = 0;
            kind = tokens.kinds[0];
            fault = 0;
            place = NONE;
            slip = 0;
            named = 0;
            Arrays.fill(beyond, NONE);
        }

        private void takeLaterFault() {
            if (slip != 0) {
                fault = slip;
                place = slipPlace;
            } else if (beyond[text.parts] != NONE) {
                fault = BEYOND;
                place = beyond[text.parts];
            }
        }

        private void fail(int why) {
            if (fault == 0) {
                fault = why;
                place = tokens.places[at];
            }
        }

        private boolean take(int wanted) {
            if (fault != 0) {
                return false;
            }
            if (kind != wanted || at >= MOST_TOKENS) {
                fault = kind != wanted ? SYNTAX : ROOM;
                place = tokens.places[at];
                return false;
            }
            at++;
            kind = tokens.kinds[at];
            return true;
        }

        private long taken() {
            return at > 0 ? tokens.values[at - 1] : 0;
        }

        private void slipAtTaken(int why) {
            if (slip == 0 && at > 0) {
                slip = why;
                slipPlace = tokens.places[at - 1];
            }
        }

        private void readParts() {
            take(Kind.PARTS);
            if (take(Kind.INT)) {
                if (taken() < LEAST_PARTS || taken() > MOST_PARTS) {
                    slipAtTaken(WRONG);
                } else {
                    text.parts = (int) taken();
                }
            }
            take(Kind.SEMICOLON);
        }

        private void readLaw() {
            if (text.laws >= MOST_LAWS) {
                fail(ROOM);
                return;
            }
            take(Kind.LAW);
            if (take(Kind.NAME)) {
                noteName(text.laws);
            }
            take(Kind.ASSIGN);
            text.lawStarts[text.laws] = text.codeLength;
            for (int ifs = 0; ifs <= MOST_IFS && fault == 0 && kind == Kind.IF; ifs++) {
                if (ifs == MOST_IFS) {
                    fail(ROOM);
                }
                take(Kind.IF);
                readCondition();
                take(Kind.THEN);
                int over = emit(Kind.IF, 0);
                readExpression(0, 0);
                take(Kind.ELSE);
                emit(Kind.ELSE, 0);
                land(over);
            }
            readExpression(0, 0);
            take(Kind.SEMICOLON);
            emit(Kind.ELSE, 0);
            text.laws++;
        }

        private void noteName(int law) {
            for (int i = 0; i < named; i++) {
                if (names[i] == taken()) {
                    slipAtTaken(TWICE);
                }
            }
            if (named < names.length) {
                names[named] = taken();
                nameLaws[named] = law;
                named++;
            }
        }

        private void readMan() {
            if (text.men >= MOST_MEN) {
                fail(ROOM);
                return;
            }
            take(Kind.MAN);
            if (take(Kind.NAME)) {
                noteName(NONE);
            }
            if (take(Kind.NAME)) {
                text.lawOf[text.men] = lawNamed(taken());
                if (text.lawOf[text.men] == NONE) {
                    slipAtTaken(NO_NAME);
                }
            }
            if (take(Kind.INT)) {
                noteBeyond();
                text.begins = withTime(text.begins, text.men, (int) taken());
            }
            take(Kind.SEMICOLON);
            text.men++;
        }

        private int lawNamed(long name) {
            for (int i = 0; i < named; i++) {
                if (names[i] == name && nameLaws[i] != NONE) {
                    return nameLaws[i];
                }
            }
            return NONE;
        }

        private void noteBeyond() {
            for (int parts = LEAST_PARTS; parts <= MOST_PARTS; parts++) {
                if (at > 0 && taken() >= parts && beyond[parts] == NONE) {
                    beyond[parts] = tokens.places[at - 1];
                }
            }
        }

        private void readDrum() {
            take(Kind.DRUM);
            if (take(Kind.INT)) {
                noteBeyond();
                text.drum = (int) taken();
            }
            if (take(Kind.INT)) {
                if (taken() > MOST_LAG) {
                    slipAtTaken(WRONG);
                }
                text.lag = (int) taken();
            }
            take(Kind.SEMICOLON);
        }

        private void readSong() {
            take(Kind.SONG);
            if (take(Kind.INT)) {
                noteBeyond();
                text.song = (int) taken();
            }
            take(Kind.SEMICOLON);
        }

        private void readFog() {
            if (text.fogs >= MOST_FOGS) {
                fail(ROOM);
                return;
            }
            take(Kind.FOG);
            if (take(Kind.INT)) {
                text.fogFrom[text.fogs] = (int) taken();
                if (taken() > LAST_FOG) {
                    slipAtTaken(WRONG);
                }
            }
            if (take(Kind.INT)) {
                text.fogTo[text.fogs] = (int) taken();
                if (taken() > LAST_FOG || taken() < text.fogFrom[text.fogs]) {
                    slipAtTaken(WRONG);
                }
            }
            take(Kind.SEMICOLON);
            text.fogs++;
        }

        /** The jumps that still wait for their landing form a chain: the operand of each is the one ahead of it. */
        private void readCondition() {
            int ands = NONE;
            int ors = NONE;
            readRelation();
            for (int i = 0; i < MOST_TOKENS && fault == 0 && (kind == Kind.AND || kind == Kind.OR); i++) {
                if (kind == Kind.AND) {
                    take(Kind.AND);
                    ands = emit(Kind.AND, ands + 1);
                } else {
                    take(Kind.OR);
                    landChain(ands);
                    ands = NONE;
                    ors = emit(Kind.OR, ors + 1);
                }
                readRelation();
            }
            landChain(ands);
            landChain(ors);
        }

        private void readRelation() {
            boolean turned = false;
            for (int i = 0; i < MOST_TOKENS && fault == 0 && kind == Kind.NOT; i++) {
                take(Kind.NOT);
                turned = !turned;
            }
            readExpression(0, 0);
            int sign = kind;
            if (sign < Kind.EQUAL || sign > Kind.LESS_EQUAL) {
                fail(SYNTAX);
            }
            take(sign);
            readExpression(0, 0);
            emit(sign, 0);
            if (turned) {
                emit(Kind.NOT, 0);
            }
        }

        /** Level 0: PARTs joined by + and -; level 1: UNITs joined by * and /. Only ( goes deeper. */
        private void readExpression(int level, int depth) {
            if (fault != 0) {
                return;
            }
            if (level >= UNIT_LEVEL) {
                readUnit(depth);
                return;
            }
            readExpression(level + 1, depth);
            for (int i = 0; i < MOST_TOKENS && fault == 0 && joinsAt(level, kind); i++) {
                int sign = kind;
                take(sign);
                readExpression(level + 1, depth);
                emit(sign, 0);
            }
        }

        private static boolean joinsAt(int level, int sign) {
            if (level == 0) {
                return sign == Kind.PLUS || sign == Kind.MINUS;
            }
            return sign == Kind.STAR || sign == Kind.SLASH;
        }

        private void readUnit(int depth) {
            int first = kind;
            if (first == Kind.INT) {
                take(Kind.INT);
                emit(Kind.INT, (int) taken());
                return;
            }
            if (first >= Kind.OWN && first <= Kind.SONG) {
                take(first);
                emit(first, 0);
                return;
            }
            if (first == Kind.GAP) {
                take(Kind.GAP);
            }
            if (kind == Kind.OPEN && depth >= DEEPEST) {
                fail(ROOM);
            }
            take(Kind.OPEN);
            readExpression(0, depth + 1);
            if (first == Kind.GAP) {
                take(Kind.COMMA);
                readExpression(0, depth + 1);
                emit(Kind.GAP, 0);
            }
            take(Kind.CLOSE);
        }

        private int emit(int order, int operand) {
            int word = text.codeLength;
            if (fault != 0 || word >= MOST_TOKENS) {
                return NONE;
            }
            text.code[word] = operand << KIND_BITS | order;
            text.codeLength++;
            return word;
        }

        private void land(int jump) {
            if (jump != NONE) {
                text.code[jump] = text.codeLength << KIND_BITS | (text.code[jump] & KIND_MASK);
            }
        }

        private void landChain(int last) {
            int jump = last;
            for (int i = 0; i < MOST_TOKENS && jump != NONE; i++) {
                int ahead = (text.code[jump] >> KIND_BITS) - 1;
                land(jump);
                jump = ahead;
            }
        }
    }

    /** Where the men sit, what they row by and when: all that a SLOT holds. Rows are by BENCH. */
    private static final class Crew {
        long times;
        final int[] men = new int[MOST_MEN];
        final int[] laws = new int[MOST_MEN];
        int drum = -1;
        int stroke;
        boolean held;

        void begin(Text text) {
            times = text.begins;
            drum = text.drum;
            stroke = 0;
            for (int bench = 0; bench < text.men; bench++) {
                men[bench] = bench;
                laws[bench] = text.lawOf[bench];
            }
        }

        void take(Crew other) {
            times = other.times;
            drum = other.drum;
            stroke = other.stroke;
            System.arraycopy(other.men, 0, men, 0, MOST_MEN);
            System.arraycopy(other.laws, 0, laws, 0, MOST_MEN);
        }

        void exchange(int bench, int other) {
            int man = men[bench];
            men[bench] = men[other];
            men[other] = man;
            int law = laws[bench];
            laws[bench] = laws[other];
            laws[other] = law;
            int time = timeAt(times, bench);
            times = withTime(times, bench, timeAt(times, other));
            times = withTime(times, other, time);
        }
    }

    /** The TIMES ahead of the last strokes; the oldest gives way to the newest. */
    private static final class Past {
        private final long[] rows = new long[MOST_ROWED];
        int kept;
        private int next;

        void clear() {
            kept = 0;
            next = 0;
        }

        void keep(long times) {
            rows[next] = times;
            next = (next + 1) % MOST_ROWED;
            kept = Math.min(kept + 1, MOST_ROWED);
        }

        long takeLast() {
            next = (next + MOST_ROWED - 1) % MOST_ROWED;
            kept = Math.max(kept - 1, 0);
            return rows[next];
        }
    }

    /** A stroke by the text in place, and what is seen of TIMES. */
    private static final class Rowing {
        // Seven levels of ( with at most three waiting values each, and a relation's left side, stay far below.
        private static final int STACK = 64;
        private static final int TOP = STACK - 1;

        Text text;
        private final int[] stack = new int[STACK];
        private final int[] looks = new int[Kind.VARS];
        private final int[] crowd = new int[MOST_PARTS];
        private final int[] rubbed = new int[MOST_MEN];

        Rowing(Text text) {
            this.text = text;
        }

        int heard(int bench, int own, int drum, boolean fog) {
            if (fog || drum < 0) {
                return own;
            }
            return (drum + text.lag * bench) % text.parts;
        }

        long stroke(long times, int[] laws, int drum, boolean fog) {
            long next = 0;
            int ahead = timeAt(times, 0);
            int two = ahead;
            for (int bench = 0; bench < text.men && bench < laws.length; bench++) {
                int own = timeAt(times, bench);
                next = withTime(next, bench, turned(laws[bench], bench, own, ahead, two, drum, fog));
                two = ahead;
                ahead = own;
            }
            return next;
        }

        /** No such law is that of a BROKEN man: own. */
        int turned(int law, int bench, int own, int ahead, int two, int drum, boolean fog) {
            if (law < 0 || law >= text.laws) {
                return own;
            }
            looks[0] = own;
            looks[Kind.AHEAD - Kind.OWN] = ahead;
            looks[Kind.TWO - Kind.OWN] = two;
            looks[Kind.DRUM - Kind.OWN] = heard(bench, own, drum, fog);
            looks[Kind.BENCH - Kind.OWN] = bench;
            looks[Kind.SONG - Kind.OWN] = text.song < 0 ? own : text.song;
            return rest(worked(text.lawStarts[law], own));
        }

        private int rest(int value) {
            int rest = value % text.parts;
            return rest < 0 ? rest + text.parts : rest;
        }

        /** Jumps lead onward only, so no more steps are made than the code has words. */
        private int worked(int start, int own) {
            int at = start;
            int top = 0;
            for (int step = 0; step < text.codeLength && at < text.codeLength; step++) {
                int word = text.code[at];
                int kind = word & Reader.KIND_MASK;
                int operand = word >> Reader.KIND_BITS;
                at++;
                if (kind == Kind.INT) {
                    top++;
                    stack[top & TOP] = operand;
                } else if (kind >= Kind.OWN) {
                    top++;
                    stack[top & TOP] = looks[kind - Kind.OWN];
                } else if (kind == Kind.ELSE) {
                    return stack[top & TOP];
                } else if (kind == Kind.NOT) {
                    stack[top & TOP] = 1 - stack[top & TOP];
                } else if (kind == Kind.IF) {
                    at = stack[top & TOP] == 0 ? operand : at;
                    top--;
                } else if (kind == Kind.AND || kind == Kind.OR) {
                    boolean decided = (stack[top & TOP] == 0) == (kind == Kind.AND);
                    at = decided ? operand : at;
                    top -= decided ? 0 : 1;
                } else {
                    int right = stack[top & TOP];
                    top--;
                    if (kind == Kind.SLASH && right == 0) {
                        return own;
                    }
                    stack[top & TOP] = joined(kind, stack[top & TOP], right);
                }
            }
            return own;
        }

        private int joined(int kind, int left, int right) {
            switch (kind) {
                case Kind.PLUS:
                    return left + right;
                case Kind.MINUS:
                    return left - right;
                case Kind.STAR:
                    return left * right;
                case Kind.SLASH:
                    return right == 0 ? 0 : left / right;
                case Kind.EQUAL:
                    return left == right ? 1 : 0;
                case Kind.UNEQUAL:
                    return left != right ? 1 : 0;
                case Kind.LESS:
                    return left < right ? 1 : 0;
                case Kind.LESS_EQUAL:
                    return left <= right ? 1 : 0;
                default:
                    return gap(left, right);
            }
        }

        int gap(int a, int b) {
            int rest = (a - b) % text.parts;
            if (rest < 0) {
                rest += text.parts;
            }
            return 2 * rest > text.parts ? rest - text.parts : rest;
        }

        private int gapAhead(long times, int bench) {
            return gap(timeAt(times, bench), timeAt(times, bench - 1));
        }

        int clashBits(long times) {
            int third = (text.parts + 2) / 3;
            int bits = 0;
            for (int bench = 1; bench < text.men; bench++) {
                if (Math.abs(gapAhead(times, bench)) >= third) {
                    bits |= 1 << bench;
                }
            }
            return bits;
        }

        int wayOf(long times) {
            return menNear(wayPart(times));
        }

        /** The least part with the most men near; leaves in crowd how many sit at each part. */
        int wayPart(long times) {
            Arrays.fill(crowd, 0);
            for (int bench = 0; bench < text.men; bench++) {
                int time = timeAt(times, bench);
                if (time < text.parts) {
                    crowd[time]++;
                }
            }
            int best = 0;
            int most = menNear(0);
            for (int part = 1; part < text.parts && most < text.men; part++) {
                int near = menNear(part);
                if (near > most) {
                    most = near;
                    best = part;
                }
            }
            return best;
        }

        int menNear(int part) {
            if (part < 0 || part >= text.parts) {
                return 0;
            }
            int before = part == 0 ? text.parts - 1 : part - 1;
            int behind = part == text.parts - 1 ? 0 : part + 1;
            return crowd[before] + crowd[part] + crowd[behind];
        }

        int waveOf(long times, int what) {
            int most = 0;
            int first = 0;
            int mostGap = 0;
            int from = 0;
            int lastGap = 0;
            for (int bench = 1; bench < text.men; bench++) {
                int gap = gapAhead(times, bench);
                if (gap != lastGap) {
                    from = bench - 1;
                    lastGap = gap;
                }
                if (gap != 0 && bench - from + 1 > most) {
                    most = bench - from + 1;
                    first = from;
                    mostGap = gap;
                }
            }
            if (most < 2) {
                return NOT_SO;
            }
            if (what == 0) {
                return most;
            }
            return what == 1 ? first : mostGap;
        }

        int mostClashing(Crew crew, int n) {
            Arrays.fill(rubbed, 0);
            long times = crew.times;
            for (int i = 0; i < n; i++) {
                times = stroke(times, crew.laws, crew.drum, text.isFog(crew.stroke + i));
                int bits = clashBits(times);
                for (int bench = 1; bench < text.men; bench++) {
                    rubbed[bench] += bits >> bench & 1;
                }
            }
            int most = 0;
            for (int bench = 1; bench < text.men; bench++) {
                if (rubbed[bench] > rubbed[most]) {
                    most = bench;
                }
            }
            return most == 0 ? NOT_SO : most;
        }
    }

    /** SEATING and CHANGE: orders are rows of the BENCHES on which the men sit now. */
    private static final class Seats {
        static final int MOST_SEATED = 6;
        private static final int MOST_STROKES = 30;
        private static final int SOONEST = 0;
        private static final int LEAST_CLASHES = 1;
        private static final int MOST_WAY = 2;

        private final Rowing rowing;
        private final int[] order = new int[MOST_MEN];
        final int[] best = new int[MOST_MEN];
        private final int[] laws = new int[MOST_MEN];

        Seats(Rowing rowing) {
            this.rowing = rowing;
        }

        static boolean isAim(int what, int n) {
            return what >= SOONEST && what <= MOST_WAY && n >= 1 && n <= MOST_STROKES;
        }

        int bestOrder(Crew crew, int what, int n) {
            int men = rowing.text.men;
            sitAsNow();
            System.arraycopy(order, 0, best, 0, MOST_MEN);
            int least = cost(crew, what, n);
            // 6 men have 720 orders.
            for (int i = 1; i < 720 && goToNextOrder(men); i++) {
                int cost = cost(crew, what, n);
                if (cost < least) {
                    least = cost;
                    System.arraycopy(order, 0, best, 0, MOST_MEN);
                }
            }
            return what == MOST_WAY ? -least : least;
        }

        int bestExchange(Crew crew, int what, int n) {
            int men = rowing.text.men;
            sitAsNow();
            int least = cost(crew, what, n);
            int found = NOT_SO;
            for (int bench = 0; bench < men; bench++) {
                for (int other = bench + 1; other < men; other++) {
                    swap(bench, other);
                    int cost = cost(crew, what, n);
                    if (cost < least) {
                        least = cost;
                        found = 100 * bench + other;
                    }
                    swap(bench, other);
                }
            }
            return found;
        }

        private void sitAsNow() {
            for (int bench = 0; bench < MOST_MEN; bench++) {
                order[bench] = bench;
            }
        }

        private void swap(int bench, int other) {
            int man = order[bench];
            order[bench] = order[other];
            order[other] = man;
        }

        /** The next row by its BENCHES, one by one; false behind the last one. */
        private boolean goToNextOrder(int men) {
            int bench = men - 2;
            while (bench >= 0 && order[bench] > order[bench + 1]) {
                bench--;
            }
            if (bench < 0) {
                return false;
            }
            int other = men - 1;
            while (other > bench && order[other] < order[bench]) {
                other--;
            }
            swap(bench, other);
            for (int low = bench + 1, high = men - 1; low < high; low++, high--) {
                swap(low, high);
            }
            return true;
        }

        /** The less, the better: WAY counts below 0. */
        private int cost(Crew crew, int what, int n) {
            long times = 0;
            for (int bench = 0; bench < rowing.text.men; bench++) {
                times = withTime(times, bench, timeAt(crew.times, order[bench]));
                laws[bench] = crew.laws[order[bench]];
            }
            int sum = 0;
            for (int strokes = 0; strokes <= n; strokes++) {
                long next = rowing.stroke(times, laws, crew.drum, false);
                int each = costOf(what, next);
                if (next == times) {
                    // From here on every stroke is like this one.
                    return what == SOONEST ? strokes : sum + each * (n - strokes);
                }
                if (strokes < n) {
                    sum += each;
                }
                times = next;
            }
            return what == SOONEST ? n + 1 : sum;
        }

        private int costOf(int what, long times) {
            if (what == SOONEST) {
                return 0;
            }
            return what == LEAST_CLASHES ? Integer.bitCount(rowing.clashBits(times)) : -rowing.wayOf(times);
        }
    }

    /** EVERY beginning of men who row by one law: a beginning's number has the TIMES as digits, the front man's highest. */
    private static final class Beginnings {
        static final int MOST = 20736;
        static final int MOST_ROWERS = 4;
        private static final int UNKNOWN = -1;
        private static final int PASSED = -2;
        private static final int NEVER = -3;

        private final Rowing rowing;
        // Made when they are asked for the first time: most objects never need rows so long.
        private int[] nexts;
        private int[] tills;
        int settling;
        int longest;

        Beginnings(Rowing rowing) {
            this.rowing = rowing;
        }

        int howMany(int m) {
            int all = 1;
            for (int i = 0; i < m && i < MOST_ROWERS; i++) {
                all *= rowing.text.parts;
            }
            return all;
        }

        void prove(int law, int m, int drum) {
            if (nexts == null || tills == null) {
                nexts = new int[MOST];
                tills = new int[MOST];
            }
            nexts[0] = 0;
            for (int bench = 0; bench < m; bench++) {
                addBench(law, bench, drum);
            }
            int all = Math.min(howMany(m), MOST);
            Arrays.fill(tills, UNKNOWN);
            settling = 0;
            longest = 0;
            for (int i = 0; i < all; i++) {
                if (tills[i] == UNKNOWN) {
                    follow(i);
                }
                if (tills[i] >= 0) {
                    settling++;
                    longest = Math.max(longest, tills[i]);
                }
            }
        }

        /** A man sees no more than two backs, so his turn is worked out once for each of three TIMES' ways. */
        private void addBench(int law, int bench, int drum) {
            int parts = rowing.text.parts;
            int seen = Math.min(howMany(Math.min(bench + 1, 3)), MOST);
            for (int i = 0; i < seen; i++) {
                int own = i % parts;
                int ahead = bench == 0 ? own : i / parts % parts;
                int two = bench < 2 ? ahead : i / parts / parts;
                tills[i] = rowing.turned(law, bench, own, ahead, two, drum, false);
            }
            // From the last one down, as a beginning is worked out from that of fewer men, which is not behind it.
            for (int i = Math.min(howMany(bench + 1), MOST) - 1; i >= 0; i--) {
                nexts[i] = nexts[i / parts] * parts + tills[i % seen];
            }
        }

        /** Goes on from a beginning till something is known, then the same way again to note it. */
        private void follow(int from) {
            int at = from;
            int steps = 0;
            while (steps < MOST && tills[at] == UNKNOWN && nexts[at] != at) {
                tills[at] = PASSED;
                at = nexts[at];
                steps++;
            }
            if (tills[at] == UNKNOWN) {
                tills[at] = 0;
            }
            int end = tills[at];
            at = from;
            for (int i = 0; i < steps; i++) {
                tills[at] = end >= 0 ? end + steps - i : NEVER;
                at = nexts[at];
            }
        }
    }

    /** What comes of the strokes ahead: ROUND, RAM, ODDS. */
    private static final class Voyage {
        static final int MOST_TO_RAM = 60;
        static final int MOST_OF_ODDS = 10;
        private static final int ROUND_WITHIN = 400;

        private final Rowing rowing;
        private final long[] rows = new long[ROUND_WITHIN + 1];
        int period;
        int lead;
        int ramWay;
        int ramFrom;
        int ramBeat;

        Voyage(Rowing rowing) {
            this.rowing = rowing;
        }

        /** If it comes round in time, the last row is on the round: the period is found back from it. */
        boolean findRound(Crew crew) {
            rows[0] = crew.times;
            for (int i = 1; i <= ROUND_WITHIN; i++) {
                rows[i] = rowing.stroke(rows[i - 1], crew.laws, crew.drum, false);
                if (rows[i] == rows[i - 1]) {
                    period = 1;
                    lead = i - 1;
                    return true;
                }
            }
            period = 1;
            while (period <= ROUND_WITHIN && rows[ROUND_WITHIN - period] != rows[ROUND_WITHIN]) {
                period++;
            }
            lead = 0;
            while (lead + period < ROUND_WITHIN && rows[lead] != rows[lead + period]) {
                lead++;
            }
            return period <= ROUND_WITHIN;
        }

        void planRam(Crew crew, int n) {
            int last = Math.min(n, MOST_TO_RAM);
            rows[0] = crew.times;
            for (int i = 1; i < last; i++) {
                rows[i] = rowing.stroke(rows[i - 1], crew.laws, crew.drum, rowing.text.isFog(crew.stroke + i - 1));
            }
            ramWay = 0;
            // The whole crew is the most WAY that can be, so nothing is looked for behind it.
            for (int from = last; from >= 1 && ramWay < rowing.text.men; from--) {
                for (int beat = 0; beat < rowing.text.parts && ramWay < rowing.text.men; beat++) {
                    int way = wayBehind(crew, from, last, beat);
                    if (way > ramWay) {
                        ramWay = way;
                        ramFrom = from;
                        ramBeat = beat;
                    }
                }
            }
        }

        private int wayBehind(Crew crew, int from, int last, int beat) {
            long times = rows[from - 1];
            for (int i = from; i <= last; i++) {
                times = rowing.stroke(times, crew.laws, beat, rowing.text.isFog(crew.stroke + i - 1));
                if (i == from && from < last && times == rows[from]) {
                    // The same beat from the next stroke on does as much, and that was looked at already.
                    return 0;
                }
            }
            return rowing.wayOf(times);
        }

        long weighed(Crew crew, long times, int left, int a, int b) {
            if (left <= 0) {
                return rowing.wayOf(times);
            }
            long fogged = rowing.stroke(times, crew.laws, crew.drum, true);
            long clear = rowing.stroke(times, crew.laws, crew.drum, false);
            if (fogged == clear) {
                return b * weighed(crew, clear, left - 1, a, b);
            }
            long sum = 0;
            if (a > 0) {
                sum += a * weighed(crew, fogged, left - 1, a, b);
            }
            if (a < b) {
                sum += (b - a) * weighed(crew, clear, left - 1, a, b);
            }
            return sum;
        }
    }

    /** What was TOLD, and who may be BROKEN by it: rowed anew from the text's begin. */
    private static final class Witness {
        private static final int LAST_STROKE = 99;
        private static final int MOST_BROKEN = 2;

        private final Rowing rowing;
        int told;
        private final int[] strokes = new int[MOST_TOLD];
        private final int[] benches = new int[MOST_TOLD];
        private final int[] clashed = new int[MOST_TOLD];
        private final int[] laws = new int[MOST_MEN];
        private final int[] clashing = new int[MOST_MEN];

        Witness(Rowing rowing) {
            this.rowing = rowing;
        }

        static boolean isStroke(int stroke) {
            return stroke >= 0 && stroke <= LAST_STROKE;
        }

        boolean isQuestion(int n, int k) {
            return n >= 0 && n <= MOST_BROKEN && k >= 0 && k <= told;
        }

        int note(int stroke, int bench, boolean clash) {
            if (told >= MOST_TOLD) {
                return NONE;
            }
            strokes[told] = stroke;
            benches[told] = bench;
            clashed[told] = clash ? 1 : 0;
            told++;
            return told - 1;
        }

        int countSets(int n, int known) {
            int sets = 0;
            for (int broken = 0; broken < 1 << rowing.text.men; broken++) {
                if (isSuspect(broken, n, known)) {
                    sets++;
                }
            }
            return sets;
        }

        int setNumber(int n, int known, int number) {
            int sets = 0;
            for (int broken = 0; broken < 1 << rowing.text.men; broken++) {
                if (isSuspect(broken, n, known)) {
                    if (sets == number) {
                        return broken;
                    }
                    sets++;
                }
            }
            return NONE;
        }

        int evenestBench(int n, int known, int stroke) {
            int men = rowing.text.men;
            int sets = 0;
            Arrays.fill(clashing, 0);
            for (int broken = 0; broken < 1 << men; broken++) {
                if (isSuspect(broken, n, known)) {
                    sets++;
                    int bits = clashesAt(broken, stroke);
                    for (int bench = 1; bench < men; bench++) {
                        clashing[bench] += bits >> bench & 1;
                    }
                }
            }
            if (sets == 0 || men < 2) {
                return NOT_SO;
            }
            int best = 1;
            for (int bench = 2; bench < men; bench++) {
                if (greaterPart(bench, sets) < greaterPart(best, sets)) {
                    best = bench;
                }
            }
            return best;
        }

        private int greaterPart(int bench, int sets) {
            return Math.max(clashing[bench], sets - clashing[bench]);
        }

        private boolean isSuspect(int broken, int n, int known) {
            if (Integer.bitCount(broken) != n) {
                return false;
            }
            breakMen(broken);
            int last = lastKnown(known);
            long times = rowing.text.begins;
            for (int stroke = 0; stroke <= last; stroke++) {
                if (!agrees(rowing.clashBits(times), stroke, known)) {
                    return false;
                }
                times = rowing.stroke(times, laws, rowing.text.drum, rowing.text.isFog(stroke));
            }
            return true;
        }

        private void breakMen(int broken) {
            for (int man = 0; man < rowing.text.men; man++) {
                laws[man] = (broken >> man & 1) == 1 ? NONE : rowing.text.lawOf[man];
            }
        }

        private int lastKnown(int known) {
            int last = -1;
            for (int i = 0; i < known && i < MOST_TOLD; i++) {
                last = Math.max(last, strokes[i]);
            }
            return last;
        }

        private boolean agrees(int bits, int stroke, int known) {
            for (int i = 0; i < known && i < MOST_TOLD; i++) {
                if (strokes[i] == stroke && (bits >> benches[i] & 1) != clashed[i]) {
                    return false;
                }
            }
            return true;
        }

        private int clashesAt(int broken, int stroke) {
            breakMen(broken);
            long times = rowing.text.begins;
            for (int i = 0; i < stroke; i++) {
                times = rowing.stroke(times, laws, rowing.text.drum, rowing.text.isFog(i));
            }
            return rowing.clashBits(times);
        }
    }
}
