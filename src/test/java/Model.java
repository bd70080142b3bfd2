import java.util.ArrayDeque;
import java.util.ArrayList;
import java.util.Arrays;
import java.util.Deque;
import java.util.HashMap;
import java.util.List;
import java.util.Map;
import java.util.Set;

/**
 * The document written down a second time, as plainly and slowly as it can be and with nothing shared with
 * the class: ModelTest sets the two side by side.
 */
final class Model {
    private static final Set<String> WORDS = Set.of("parts", "law", "if", "then", "else", "man", "drum", "song",
        "fog", "or", "and", "not", "gap", "own", "ahead", "two", "bench");
    private static final Set<String> VARS = Set.of("own", "ahead", "two", "drum", "bench", "song");
    private static final Set<String> RELATIONS = Set.of("==", "!=", "<", "<=");

    private record Token(String kind, String text, int place) {
        int value() {
            return Integer.parseInt(text);
        }
    }

    private static final class Halt extends RuntimeException {
        final int fault;
        final int place;

        Halt(int fault, int place) {
            this.fault = fault;
            this.place = place;
        }
    }

    private static final class DividedByZero extends RuntimeException {
    }

    private record Look(int own, int ahead, int two, int drum, int bench, int song, int parts) {
    }

    private interface Num {
        int of(Look look);
    }

    private interface Truth {
        boolean of(Look look);
    }

    private static final class Told {
        int parts = 24;
        final List<Num> laws = new ArrayList<>();
        final List<Integer> manLaws = new ArrayList<>();
        final List<Integer> begins = new ArrayList<>();
        int drum = -1;
        int lag = 0;
        int song = -1;
        final List<int[]> fogs = new ArrayList<>();
    }

    /** All that goes from stroke to stroke. */
    private static final class State {
        int[] times;
        int[] men;
        int[] laws;
        int drum;
        int stroke;

        State copy() {
            State s = new State();
            s.times = times.clone();
            s.men = men.clone();
            s.laws = laws.clone();
            s.drum = drum;
            s.stroke = stroke;
            return s;
        }
    }

    private StringBuilder tape = new StringBuilder();
    private int place = -1;
    private Told text = new Told();
    private State now;
    private final List<int[]> past = new ArrayList<>();
    private final List<int[]> told = new ArrayList<>();
    private final State[] slots = new State[3];

    Model() {
        begin();
    }

    private void begin() {
        now = atBegin();
        past.clear();
        told.clear();
        Arrays.fill(slots, null);
    }

    private State atBegin() {
        State s = new State();
        int n = text.begins.size();
        s.times = new int[n];
        s.men = new int[n];
        s.laws = new int[n];
        for (int i = 0; i < n; i++) {
            s.times[i] = text.begins.get(i);
            s.men[i] = i;
            s.laws[i] = text.manLaws.get(i);
        }
        s.drum = text.drum;
        return s;
    }

    // ---- tape and text

    int feed(int a, int b, int c, int d, int e) {
        if (tape.length() + 20 > 2000) {
            return -1;
        }
        for (int word : new int[] {a, b, c, d, e}) {
            for (int i = 3; i >= 0; i--) {
                tape.append((char) (word >>> 8 * i & 255));
            }
        }
        return tape.length();
    }

    int back(int n) {
        if (n < 0 || n > tape.length()) {
            return -1;
        }
        tape.setLength(tape.length() - n);
        return tape.length();
    }

    int read() {
        String s = tape.toString();
        tape = new StringBuilder();
        try {
            List<Token> tokens = tokens(s);
            syntax(tokens);
            text = meaning(tokens);
            begin();
            place = -1;
            return 0;
        } catch (Halt halt) {
            place = halt.place;
            return halt.fault;
        }
    }

    int place() {
        return place;
    }

    private static List<Token> tokens(String s) {
        List<Token> all = new ArrayList<>();
        int i = 0;
        while (i < s.length()) {
            if (" \t\n\r".indexOf(s.charAt(i)) >= 0) {
                i++;
                continue;
            }
            int from = i;
            String kind;
            if (s.substring(i).matches("(?s)[a-z].*")) {
                while (i < s.length() && s.substring(i, i + 1).matches("[a-z]")) {
                    i++;
                }
                String word = s.substring(from, i);
                kind = WORDS.contains(word) ? word : word.length() <= 8 ? "NAME" : "BAD";
            } else if (s.substring(i).matches("(?s)[0-9].*")) {
                while (i < s.length() && s.substring(i, i + 1).matches("[0-9]")) {
                    i++;
                }
                kind = i - from <= 4 ? "INT" : "BAD";
            } else if (i + 1 < s.length() && Set.of("==", "!=", "<=").contains(s.substring(i, i + 2))) {
                i += 2;
                kind = s.substring(from, i);
            } else {
                i++;
                kind = ";=,+-*/<()".indexOf(s.charAt(from)) >= 0 ? s.substring(from, i) : "BAD";
            }
            all.add(new Token(kind, s.substring(from, i), from));
        }
        all.add(new Token("END", "", s.length()));
        return all;
    }

    /** SYNTAX and ROOM by a row of states and a stack of open brackets: no grammar is descended here. */
    private static void syntax(List<Token> tokens) {
        String state = "tell";
        Deque<String> open = new ArrayDeque<>();
        Map<String, Integer> tells = new HashMap<>();
        int ifs = 0;
        int number = 0;
        for (Token t : tokens) {
            number++;
            String next = next(state, t.kind, open);
            if (next == null) {
                throw new Halt(1, t.place);
            }
            boolean room = number > 400 && !t.kind.equals("END");
            if (state.equals("tell") && !t.kind.equals("END")) {
                int there = tells.merge(t.kind, 1, Integer::sum);
                room |= t.kind.equals("law") && there > 6 || t.kind.equals("man") && there > 12
                    || t.kind.equals("fog") && there > 4;
                ifs = 0;
            }
            if (t.kind.equals("if")) {
                ifs++;
                room |= ifs > 8;
            }
            room |= open.size() > 6;
            if (room) {
                throw new Halt(2, t.place);
            }
            state = next;
        }
    }

    /** The state behind a token, or null if no text goes on so. States of a law: what of it, and what is awaited. */
    private static String next(String state, String kind, Deque<String> open) {
        switch (state) {
            case "tell":
                return switch (kind) {
                    case "parts", "song" -> "int;";
                    case "drum", "fog" -> "int int;";
                    case "law" -> "name=";
                    case "man" -> "name name int;";
                    case "END" -> "end";
                    default -> null;
                };
            case "int;":
                return kind.equals("INT") ? ";" : null;
            case "int int;":
                return kind.equals("INT") ? "int;" : null;
            case "name name int;":
                return kind.equals("NAME") ? "name int;" : null;
            case "name int;":
                return kind.equals("NAME") ? "int;" : null;
            case "name=":
                return kind.equals("NAME") ? "=" : null;
            case "=":
                return kind.equals("=") ? "value start" : null;
            case ";":
                return kind.equals(";") ? "tell" : null;
            default:
                String[] both = state.split(" ");
                return nextInLaw(both[0], both[1], kind, open);
        }
    }

    private static String nextInLaw(String of, String awaited, String kind, Deque<String> open) {
        switch (awaited) {
            case "gap":
                if (!kind.equals("(")) {
                    return null;
                }
                open.push("gap");
                return of + " unit";
            case "start":
            case "unit":
                if (kind.equals("INT") || VARS.contains(kind)) {
                    return of + " sign";
                }
                if (kind.equals("(")) {
                    open.push("(");
                    return of + " unit";
                }
                if (kind.equals("gap")) {
                    return of + " gap";
                }
                if (awaited.equals("start") && kind.equals("if") && of.equals("value")) {
                    return "left start";
                }
                if (awaited.equals("start") && kind.equals("not") && of.equals("left")) {
                    return "left start";
                }
                return null;
            default:
                return behindUnit(of, kind, open);
        }
    }

    private static String behindUnit(String of, String kind, Deque<String> open) {
        if (Set.of("+", "-", "*", "/").contains(kind)) {
            return of + " unit";
        }
        if (!open.isEmpty()) {
            if (kind.equals(",") && open.peek().equals("gap")) {
                open.pop();
                open.push("(");
                return of + " unit";
            }
            if (kind.equals(")") && open.peek().equals("(")) {
                open.pop();
                return of + " sign";
            }
            return null;
        }
        if (of.equals("left") && RELATIONS.contains(kind)) {
            return "right unit";
        }
        if (of.equals("right") && (kind.equals("and") || kind.equals("or"))) {
            return "left start";
        }
        if (of.equals("right") && kind.equals("then")) {
            return "then unit";
        }
        if (of.equals("then") && kind.equals("else")) {
            return "value start";
        }
        return of.equals("value") && kind.equals(";") ? "tell" : null;
    }

    private static Told meaning(List<Token> tokens) {
        Told t = new Told();
        Map<String, Integer> names = new HashMap<>();
        List<Token> bounded = new ArrayList<>();
        int i = 0;
        while (!tokens.get(i).kind.equals("END")) {
            int end = i;
            while (!tokens.get(end).kind.equals(";")) {
                end++;
            }
            oneTell(t, tokens.subList(i, end), names, bounded);
            i = end + 1;
        }
        for (Token b : bounded) {
            if (b.value() >= t.parts) {
                throw new Halt(6, b.place);
            }
        }
        return t;
    }

    private static void oneTell(Told t, List<Token> tell, Map<String, Integer> names, List<Token> bounded) {
        switch (tell.get(0).kind) {
            case "parts":
                t.parts = tell.get(1).value();
                wrongIf(t.parts < 3 || t.parts > 24, tell.get(1));
                break;
            case "law":
                newName(tell.get(1), t.laws.size(), names);
                t.laws.add(new Parser(tell.subList(3, tell.size())).law());
                break;
            case "man":
                newName(tell.get(1), -1, names);
                int law = names.getOrDefault(tell.get(2).text, -1);
                if (law < 0) {
                    throw new Halt(4, tell.get(2).place);
                }
                t.manLaws.add(law);
                t.begins.add(tell.get(3).value());
                bounded.add(tell.get(3));
                break;
            case "drum":
                t.drum = tell.get(1).value();
                bounded.add(tell.get(1));
                t.lag = tell.get(2).value();
                wrongIf(t.lag > 23, tell.get(2));
                break;
            case "song":
                t.song = tell.get(1).value();
                bounded.add(tell.get(1));
                break;
            default:
                int from = tell.get(1).value();
                int to = tell.get(2).value();
                wrongIf(from > 999, tell.get(1));
                wrongIf(to > 999 || to < from, tell.get(2));
                t.fogs.add(new int[] {from, to});
                break;
        }
    }

    private static void wrongIf(boolean wrong, Token at) {
        if (wrong) {
            throw new Halt(5, at.place);
        }
    }

    private static void newName(Token name, int law, Map<String, Integer> names) {
        if (names.containsKey(name.text)) {
            throw new Halt(3, name.place);
        }
        names.put(name.text, law);
    }

    /** Only texts without a FAULT come here. */
    private static final class Parser {
        private final List<Token> tokens;
        private int at;

        Parser(List<Token> tokens) {
            this.tokens = tokens;
        }

        private boolean sees(String... kinds) {
            return at < tokens.size() && Arrays.asList(kinds).contains(tokens.get(at).kind);
        }

        private Token take() {
            return tokens.get(at++);
        }

        Num law() {
            if (!sees("if")) {
                return sum();
            }
            take();
            Truth when = any();
            take();
            Num then = sum();
            take();
            Num rest = law();
            return look -> when.of(look) ? then.of(look) : rest.of(look);
        }

        private Truth any() {
            Truth first = all();
            if (!sees("or")) {
                return first;
            }
            take();
            Truth rest = any();
            return look -> first.of(look) || rest.of(look);
        }

        private Truth all() {
            Truth first = literal();
            if (!sees("and")) {
                return first;
            }
            take();
            Truth rest = all();
            return look -> first.of(look) && rest.of(look);
        }

        private Truth literal() {
            if (sees("not")) {
                take();
                Truth of = literal();
                return look -> !of.of(look);
            }
            Num left = sum();
            String sign = take().kind;
            Num right = sum();
            return look -> {
                int a = left.of(look);
                int b = right.of(look);
                return switch (sign) {
                    case "==" -> a == b;
                    case "!=" -> a != b;
                    case "<" -> a < b;
                    default -> a <= b;
                };
            };
        }

        private Num sum() {
            Num all = product();
            while (sees("+", "-")) {
                boolean plus = take().kind.equals("+");
                Num left = all;
                Num right = product();
                all = look -> plus ? left.of(look) + right.of(look) : left.of(look) - right.of(look);
            }
            return all;
        }

        private Num product() {
            Num all = unit();
            while (sees("*", "/")) {
                boolean times = take().kind.equals("*");
                Num left = all;
                Num right = unit();
                all = look -> times ? left.of(look) * right.of(look) : divided(left.of(look), right.of(look));
            }
            return all;
        }

        private static int divided(int a, int b) {
            if (b == 0) {
                throw new DividedByZero();
            }
            return (int) ((long) a / b);
        }

        private Num unit() {
            Token t = take();
            switch (t.kind) {
                case "INT":
                    return look -> t.value();
                case "own":
                    return Look::own;
                case "ahead":
                    return Look::ahead;
                case "two":
                    return Look::two;
                case "drum":
                    return Look::drum;
                case "bench":
                    return Look::bench;
                case "song":
                    return Look::song;
                case "gap":
                    take();
                    Num a = sum();
                    take();
                    Num b = sum();
                    take();
                    return look -> gap(a.of(look), b.of(look), look.parts);
                default:
                    Num inner = sum();
                    take();
                    return inner;
            }
        }
    }

    // ---- rowing

    private static int gap(int a, int b, int parts) {
        int rest = Math.floorMod(a - b, parts);
        return rest > parts / 2.0 ? rest - parts : rest;
    }

    private boolean fog(int stroke) {
        return text.fogs.stream().anyMatch(f -> f[0] <= stroke && stroke <= f[1]);
    }

    private int hears(int bench, int own, int drum, boolean fog) {
        return fog || drum < 0 ? own : Math.floorMod(drum + text.lag * bench, text.parts);
    }

    /** Law -1: own. */
    private int[] stroke(int[] times, int[] laws, int drum, boolean fog) {
        int[] next = new int[times.length];
        for (int b = 0; b < times.length; b++) {
            int own = times[b];
            int ahead = b == 0 ? own : times[b - 1];
            int two = b < 2 ? ahead : times[b - 2];
            Look look = new Look(own, ahead, two, hears(b, own, drum, fog), b, text.song < 0 ? own : text.song,
                text.parts);
            try {
                next[b] = laws[b] < 0 ? own : Math.floorMod(text.laws.get(laws[b]).of(look), text.parts);
            } catch (DividedByZero e) {
                next[b] = own;
            }
        }
        return next;
    }

    private int[] clear(int[] times, int[] laws) {
        return stroke(times, laws, now.drum, false);
    }

    private int clashBits(int[] times) {
        int bits = 0;
        for (int b = 1; b < times.length; b++) {
            if (3 * Math.abs(gap(times[b], times[b - 1], text.parts)) >= text.parts) {
                bits |= 1 << b;
            }
        }
        return bits;
    }

    private int[] wayOf(int[] times) {
        int[] best = {-1, 0};
        for (int p = 0; p < text.parts; p++) {
            int near = 0;
            for (int t : times) {
                if (Math.abs(gap(t, p, text.parts)) <= 1) {
                    near++;
                }
            }
            if (near > best[0]) {
                best = new int[] {near, p};
            }
        }
        return best;
    }

    private boolean isBench(int b) {
        return b >= 0 && b < now.times.length;
    }

    private int men() {
        return now.times.length;
    }

    int bench(int b, int what) {
        if (!isBench(b) || what < 0 || what > 3) {
            return -1;
        }
        return new int[] {now.times[b], now.men[b], now.laws[b],
            hears(b, now.times[b], now.drum, fog(now.stroke))}[what];
    }

    int row(int n) {
        if (n < 0 || n > 100) {
            return -1;
        }
        for (int i = 0; i < n; i++) {
            past.add(now.times);
            now.times = stroke(now.times, now.laws, now.drum, fog(now.stroke));
            now.stroke++;
        }
        while (past.size() > 100) {
            past.remove(0);
        }
        return now.stroke;
    }

    boolean undo() {
        if (past.isEmpty()) {
            return false;
        }
        now.times = past.remove(past.size() - 1).clone();
        now.stroke--;
        return true;
    }

    int clashes() {
        return clashBits(now.times);
    }

    int way(int what) {
        return what < 0 || what > 1 || men() == 0 ? -1 : wayOf(now.times)[what];
    }

    int wave(int what) {
        if (what < 0 || what > 2) {
            return -1;
        }
        for (int length = men(); length >= 2; length--) {
            for (int first = 0; first + length <= men(); first++) {
                int gap = gap(now.times[first + 1], now.times[first], text.parts);
                boolean same = gap != 0;
                for (int b = first + 1; b < first + length; b++) {
                    same &= gap(now.times[b], now.times[b - 1], text.parts) == gap;
                }
                if (same) {
                    return new int[] {length, first, gap}[what];
                }
            }
        }
        return -2;
    }

    int soon(int k) {
        if (k < 1 || k > men()) {
            return -1;
        }
        int[] times = now.times;
        for (int s = 0; s <= 100; s++) {
            if (wayOf(times)[0] >= k) {
                return s;
            }
            times = stroke(times, now.laws, now.drum, fog(now.stroke + s));
        }
        return -2;
    }

    int rubs(int n) {
        if (n < 1 || n > 100) {
            return -1;
        }
        int[] often = new int[men()];
        int[] times = now.times;
        for (int s = 0; s < n; s++) {
            times = stroke(times, now.laws, now.drum, fog(now.stroke + s));
            for (int b = 0; b < men(); b++) {
                often[b] += clashBits(times) >> b & 1;
            }
        }
        int most = Arrays.stream(often).max().orElse(0);
        for (int b = 0; b < men(); b++) {
            if (most > 0 && often[b] == most) {
                return b;
            }
        }
        return -2;
    }

    int still() {
        return Arrays.equals(clear(now.times, now.laws), now.times) ? 1 : 0;
    }

    int round(int what) {
        if (what < 0 || what > 1) {
            return -1;
        }
        List<String> rows = new ArrayList<>();
        int[] times = now.times;
        for (int i = 0; i <= 400; i++) {
            rows.add(Arrays.toString(times));
            times = clear(times, now.laws);
        }
        for (int p = 1; p <= 400; p++) {
            for (int s = 0; s + p <= 400; s++) {
                if (rows.get(s).equals(rows.get(s + p))) {
                    return what == 0 ? p : s;
                }
            }
        }
        return -2;
    }

    // ---- by hand

    boolean change(int b, int o) {
        if (!isBench(b) || !isBench(o) || b == o) {
            return false;
        }
        now.times = exchanged(now.times, b, o);
        now.men = exchanged(now.men, b, o);
        now.laws = exchanged(now.laws, b, o);
        return true;
    }

    private static int[] exchanged(int[] row, int b, int o) {
        int[] other = row.clone();
        other[b] = row[o];
        other[o] = row[b];
        return other;
    }

    boolean teach(int b, int law) {
        if (!isBench(b) || law < 0 || law >= text.laws.size()) {
            return false;
        }
        now.laws[b] = law;
        return true;
    }

    boolean set(int b, int time) {
        if (!isBench(b) || time < 0 || time >= text.parts) {
            return false;
        }
        now.times = now.times.clone();
        now.times[b] = time;
        return true;
    }

    boolean beat(int x) {
        if (x < 0 || x >= text.parts) {
            return false;
        }
        now.drum = x;
        return true;
    }

    // ---- seatings

    private int score(int[] order, int what, int n) {
        int[] times = new int[men()];
        int[] laws = new int[men()];
        for (int b = 0; b < men(); b++) {
            times[b] = now.times[order[b]];
            laws[b] = now.laws[order[b]];
        }
        int sum = 0;
        for (int s = 0; s <= n; s++) {
            if (what == 0 && Arrays.equals(times, clear(times, laws))) {
                return s;
            }
            if (s > 0) {
                sum += what == 1 ? Integer.bitCount(clashBits(times)) : wayOf(times)[0];
            }
            times = clear(times, laws);
        }
        return what == 0 ? n + 1 : sum;
    }

    private static boolean isBetter(int what, int score, int than) {
        return what == 2 ? score > than : score < than;
    }

    private int[] asNow() {
        int[] order = new int[men()];
        for (int i = 0; i < order.length; i++) {
            order[i] = i;
        }
        return order;
    }

    private static void orders(int[] order, int set, boolean[] used, List<int[]> all) {
        if (set == order.length) {
            all.add(order.clone());
            return;
        }
        for (int i = 0; i < order.length; i++) {
            if (!used[i]) {
                used[i] = true;
                order[set] = i;
                orders(order, set + 1, used, all);
                used[i] = false;
            }
        }
    }

    private int[] bestOrder(int what, int n) {
        List<int[]> all = new ArrayList<>();
        orders(new int[men()], 0, new boolean[men()], all);
        int[] best = all.get(0);
        for (int[] order : all) {
            if (isBetter(what, score(order, what, n), score(best, what, n))) {
                best = order;
            }
        }
        return best;
    }

    private boolean isAim(int what, int n) {
        return what >= 0 && what <= 2 && n >= 1 && n <= 30 && men() > 0;
    }

    int seating(int what, int n) {
        if (!isAim(what, n)) {
            return -1;
        }
        return men() > 6 ? -2 : score(bestOrder(what, n), what, n);
    }

    int seat(int what, int n, int b) {
        if (!isAim(what, n) || !isBench(b)) {
            return -1;
        }
        return men() > 6 ? -2 : bestOrder(what, n)[b];
    }

    int better(int what, int n) {
        if (!isAim(what, n)) {
            return -1;
        }
        int best = score(asNow(), what, n);
        int found = -2;
        for (int b = 0; b < men(); b++) {
            for (int o = b + 1; o < men(); o++) {
                int score = score(exchanged(asNow(), b, o), what, n);
                if (isBetter(what, score, best)) {
                    best = score;
                    found = 100 * b + o;
                }
            }
        }
        return found;
    }

    // ---- every beginning, ram, odds

    int every(int law, int m, int what) {
        if (law < 0 || law >= text.laws.size() || m < 1 || m > 4 || what < 0 || what > 2) {
            return -1;
        }
        int all = (int) Math.pow(text.parts, m);
        if (all > 20736) {
            return -2;
        }
        if (what == 2) {
            return all;
        }
        int[] laws = new int[m];
        Arrays.fill(laws, law);
        int from = 0;
        int most = 0;
        for (int i = 0; i < all; i++) {
            int[] times = new int[m];
            for (int b = 0, rest = i; b < m; b++, rest /= text.parts) {
                times[b] = rest % text.parts;
            }
            int strokes = tillStill(times, laws);
            if (strokes >= 0) {
                from++;
                most = Math.max(most, strokes);
            }
        }
        return what == 0 ? from : most;
    }

    private int tillStill(int[] begin, int[] laws) {
        Set<String> seen = new java.util.HashSet<>();
        int[] times = begin;
        for (int s = 0;; s++) {
            int[] next = clear(times, laws);
            if (Arrays.equals(next, times)) {
                return s;
            }
            if (!seen.add(Arrays.toString(times))) {
                return -1;
            }
            times = next;
        }
    }

    int ram(int n, int what) {
        if (n < 1 || n > 60 || what < 0 || what > 2 || men() == 0) {
            return -1;
        }
        if (now.drum < 0) {
            return -2;
        }
        int[] best = {-1, 0, 0};
        for (int a = 1; a <= n; a++) {
            for (int x = 0; x < text.parts; x++) {
                int[] times = now.times;
                for (int i = 1; i <= n; i++) {
                    times = stroke(times, now.laws, i < a ? now.drum : x, fog(now.stroke + i - 1));
                }
                int way = wayOf(times)[0];
                if (way > best[0] || way == best[0] && a > best[1]) {
                    best = new int[] {way, a, x};
                }
            }
        }
        return best[what];
    }

    long odds(int n, int a, int b) {
        if (n < 1 || n > 10 || b < 1 || b > 9 || a < 0 || a > b || men() == 0) {
            return -1;
        }
        long sum = 0;
        for (int ways = 0; ways < 1 << n; ways++) {
            int[] times = now.times;
            long weight = 1;
            for (int i = 0; i < n; i++) {
                boolean fog = (ways >> i & 1) == 1;
                times = stroke(times, now.laws, now.drum, fog);
                weight *= fog ? a : b - a;
            }
            sum += weight * wayOf(times)[0];
        }
        return sum;
    }

    // ---- who broke it

    int tell(int stroke, int b, boolean clashed) {
        if (told.size() == 20 || stroke < 0 || stroke > 99 || b < 1 || !isBench(b)) {
            return -1;
        }
        told.add(new int[] {stroke, b, clashed ? 1 : 0});
        return told.size() - 1;
    }

    int forget() {
        int there = told.size();
        told.clear();
        return there;
    }

    private int[] clashesWith(int broken) {
        State s = atBegin();
        for (int i = 0; i < men(); i++) {
            if ((broken >> i & 1) == 1) {
                s.laws[i] = -1;
            }
        }
        int[] all = new int[100];
        for (int i = 0; i < 100; i++) {
            all[i] = clashBits(s.times);
            s.times = stroke(s.times, s.laws, s.drum, fog(i));
        }
        return all;
    }

    private List<Integer> sets(int n, int k) {
        List<Integer> found = new ArrayList<>();
        for (int broken = 0; broken < 1 << men(); broken++) {
            if (Integer.bitCount(broken) == n) {
                int[] clashes = clashesWith(broken);
                boolean so = true;
                for (int[] t : told.subList(0, k)) {
                    so &= (clashes[t[0]] >> t[1] & 1) == t[2];
                }
                if (so) {
                    found.add(broken);
                }
            }
        }
        return found;
    }

    private boolean isQuestion(int n, int k) {
        return n >= 0 && n <= 2 && k >= 0 && k <= told.size();
    }

    int suspects(int n, int k) {
        return isQuestion(n, k) ? sets(n, k).size() : -1;
    }

    int suspect(int n, int k, int i) {
        if (!isQuestion(n, k)) {
            return -1;
        }
        List<Integer> sets = sets(n, k);
        return i >= 0 && i < sets.size() ? sets.get(i) : -1;
    }

    int check(int n, int k, int stroke) {
        if (!isQuestion(n, k) || stroke < 0 || stroke > 99) {
            return -1;
        }
        List<Integer> sets = sets(n, k);
        if (sets.isEmpty() || men() < 2) {
            return -2;
        }
        int best = -1;
        int least = Integer.MAX_VALUE;
        for (int b = 1; b < men(); b++) {
            int clash = 0;
            for (int set : sets) {
                clash += clashesWith(set)[stroke] >> b & 1;
            }
            int greater = Math.max(clash, sets.size() - clash);
            if (greater < least) {
                least = greater;
                best = b;
            }
        }
        return best;
    }

    // ---- slots and counts

    boolean hold(int slot) {
        if (slot < 0 || slot > 2) {
            return false;
        }
        slots[slot] = now.copy();
        return true;
    }

    boolean restore(int slot) {
        if (slot < 0 || slot > 2 || slots[slot] == null) {
            return false;
        }
        now = slots[slot].copy();
        past.clear();
        return true;
    }

    int count(int what) {
        switch (what) {
            case 0:
                return text.parts;
            case 1:
                return text.laws.size();
            case 2:
                return men();
            case 3:
                return now.stroke;
            case 4:
                return now.drum < 0 ? -2 : now.drum;
            case 5:
                return text.lag;
            case 6:
                return text.song < 0 ? -2 : text.song;
            case 7:
                return text.fogs.size();
            case 8:
                return tape.length();
            case 9:
                return past.size();
            case 10:
                return told.size();
            case 11:
                return (int) Arrays.stream(slots).filter(s -> s != null).count();
            case 12:
                return fog(now.stroke) ? 1 : 0;
            default:
                return -1;
        }
    }
}
