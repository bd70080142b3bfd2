import java.util.ArrayList;
import java.util.List;
import java.util.Random;

/** Random texts and random calls, answered by the class and by the Model: every answer must be alike. */
public final class ModelTest {
    private static final String[] PIECES = {"parts", "law", "if", "then", "else", "man", "drum", "song", "fog", "or",
        "and", "not", "gap", "own", "ahead", "two", "bench", ";", "=", ",", "+", "-", "*", "/", "==", "!=", "<", "<=",
        "(", ")", " ", "\n", "\t", "\r", "0", "7", "24", "999", "1000", "12345", "abcdefgh", "abcdefghi", "a", "b",
        "!", ".", ">", "A", "\u00e9", "\u0000"};

    private static final int[] WILD = {Integer.MIN_VALUE, Integer.MAX_VALUE, -2, 31, 32, 64, 1000, -1000, 1 << 16};

    private final Random random;
    private final GalleyStroke it = new GalleyStroke();
    private final Model model = new Model();
    private final List<String> calls = new ArrayList<>();
    private int wrong;

    private ModelTest(long seed) {
        random = new Random(seed);
    }

    public static void main(String[] args) {
        int runs = args.length > 0 ? Integer.parseInt(args[0]) : 500;
        int first = args.length > 1 ? Integer.parseInt(args[1]) : 1;
        int wrong = 0;
        for (int seed = first; seed < first + runs && wrong < 5; seed++) {
            wrong += new ModelTest(seed).run(seed);
        }
        System.out.println(wrong == 0 ? runs + " runs are alike" : wrong + " runs differ");
        if (wrong != 0) {
            System.exit(1);
        }
    }

    private int run(int seed) {
        int texts = 1 + upTo(3);
        for (int t = 0; t < texts && wrong == 0; t++) {
            boolean mended = upTo(3) > 0;
            String text = randomText(mended ? 1 + upTo(seed % 5 == 0 ? 12 : 5) : upTo(13), mended);
            readText(mended ? text : spoiled(text));
            int many = 5 + upTo(60);
            for (int i = 0; i < many && wrong == 0; i++) {
                randomCall();
            }
        }
        if (wrong != 0) {
            System.out.println("seed " + seed + ":");
            calls.forEach(System.out::println);
        }
        return wrong;
    }

    private int upTo(int bound) {
        return random.nextInt(bound);
    }

    private int around(int low, int high) {
        return upTo(80) == 0 ? WILD[upTo(WILD.length)] : low - 1 + upTo(high - low + 3);
    }

    private void alike(String call, long got, long want) {
        calls.add("  " + call + " = " + got + (got == want ? "" : ", due is " + want));
        if (got != want) {
            wrong = 1;
        }
    }

    private void alike(String call, boolean got, boolean want) {
        alike(call, got ? 1 : 0, want ? 1 : 0);
    }

    // ---- texts

    private void readText(String text) {
        calls.add("  text: " + text.replace("\n", "\\n").replace("\r", "\\r").replace("\t", "\\t"));
        int[] words = Feeding.words(text);
        for (int i = 0; i < words.length; i += 5) {
            alike("feed", it.feed(words[i], words[i + 1], words[i + 2], words[i + 3], words[i + 4]),
                model.feed(words[i], words[i + 1], words[i + 2], words[i + 3], words[i + 4]));
        }
        int over = words.length * 4 - text.length();
        alike("back", it.back(over), model.back(over));
        alike("read", it.read(), model.read());
        alike("place", it.place(), model.place());
        for (int what = 0; what <= 12; what++) {
            alike("count(" + what + ")", it.count(what), model.count(what));
        }
    }

    private String spoiled(String text) {
        StringBuilder s = new StringBuilder(text);
        int times = upTo(3);
        for (int i = 0; i < times; i++) {
            int at = upTo(s.length() + 1);
            String piece = PIECES[upTo(PIECES.length)];
            switch (upTo(4)) {
                case 0:
                    s.insert(at, piece);
                    break;
                case 1:
                    s.delete(at, Math.min(s.length(), at + 1 + upTo(3)));
                    break;
                case 2:
                    s.replace(at, Math.min(s.length(), at + 1), piece);
                    break;
                default:
                    s.setLength(upTo(6) == 0 ? at : s.length());
                    break;
            }
        }
        s.setLength(Math.min(s.length(), 2000));
        return s.toString();
    }

    private String blank() {
        return new String[] {" ", " ", " ", "\n", "\t", "\r", "  "}[upTo(7)];
    }

    private String randomText(int men, boolean mended) {
        StringBuilder s = new StringBuilder();
        int parts = upTo(4) == 0 ? 24 : 3 + upTo(mended ? 22 : 23);
        if (parts != 24 || upTo(2) == 0) {
            s.append("parts").append(blank()).append(parts).append(";");
        }
        int laws = 1 + upTo(mended ? 4 : 7);
        int slack = mended ? 0 : upTo(3) == 0 ? 1 : 0;
        for (int i = 0; i < laws; i++) {
            s.append("law ").append((char) ('p' + (slack > 0 && upTo(6) == 0 ? 0 : i))).append(blank()).append("= ").append(randomLaw()).append(";");
        }
        for (int i = 0; i < men; i++) {
            s.append("man ").append((char) ('a' + (slack > 0 && upTo(9) == 0 ? 0 : i))).append(" ").append((char) ('p' + upTo(laws + slack)))
                .append(" ").append(upTo(parts + slack)).append(";");
        }
        if (upTo(3) > 0) {
            s.append("drum ").append(upTo(parts + slack)).append(" ").append(upTo(24 + slack)).append(";");
        }
        if (upTo(2) == 0) {
            s.append("song ").append(upTo(parts + slack)).append(";");
        }
        int fogs = upTo(mended ? 4 : 6);
        for (int i = 0; i < fogs; i++) {
            int from = upTo(30);
            s.append("fog ").append(from).append(" ").append(from + upTo(10) - slack).append(" ;");
        }
        return s.length() > 2000 ? s.substring(0, 2000) : s.toString();
    }

    private String randomLaw() {
        StringBuilder s = new StringBuilder();
        int ifs = upTo(20) == 0 ? upTo(10) : upTo(3);
        for (int i = 0; i < ifs; i++) {
            s.append("if ").append(condition()).append(" then ").append(sum(upTo(3))).append(" else ");
        }
        return s.append(sum(upTo(50) == 0 ? 7 : upTo(4))).toString();
    }

    private String condition() {
        StringBuilder s = new StringBuilder(literal());
        for (int i = upTo(4); i > 1; i--) {
            s.append(upTo(2) == 0 ? " and " : " or ").append(literal());
        }
        return s.toString();
    }

    private String literal() {
        return "not ".repeat(upTo(3) == 0 ? 1 + upTo(2) : 0) + sum(1)
            + new String[] {"==", " != ", "<", "<= "}[upTo(4)] + sum(1);
    }

    private String sum(int deep) {
        StringBuilder s = new StringBuilder(product(deep));
        for (int i = upTo(3); i > 1; i--) {
            s.append(upTo(2) == 0 ? " + " : "-").append(product(deep - 1));
        }
        return s.toString();
    }

    private String product(int deep) {
        StringBuilder s = new StringBuilder(unit(deep));
        for (int i = upTo(3); i > 1; i--) {
            s.append(upTo(2) == 0 ? " * " : "/").append(unit(deep - 1));
        }
        return s.toString();
    }

    private String unit(int deep) {
        if (deep <= 0 || upTo(3) == 0 && deep < 4) {
            return upTo(3) == 0 ? String.valueOf(upTo(12) == 0 ? 9999 : upTo(8))
                : new String[] {"own", "ahead", "two", "drum", "bench", "song"}[upTo(6)];
        }
        if (upTo(2) == 0) {
            return "gap(" + sum(deep - 1) + ", " + sum(upTo(deep)) + ")";
        }
        return "(" + sum(deep - 1) + ")";
    }

    // ---- calls

    private void randomCall() {
        int men = model.count(2);
        int parts = model.count(0);
        int laws = model.count(1);
        int b = around(0, Math.max(men - 1, 0));
        int o = around(0, Math.max(men - 1, 0));
        switch (upTo(33)) {
            case 0:
            case 1: {
                int n = upTo(12) == 0 ? around(0, 100) : upTo(4);
                alike("row(" + n + ")", it.row(n), model.row(n));
                break;
            }
            case 2:
                alike("undo()", it.undo(), model.undo());
                break;
            case 3:
                alike("clashes()", it.clashes(), model.clashes());
                break;
            case 4: {
                int what = around(0, 1);
                alike("way(" + what + ")", it.way(what), model.way(what));
                break;
            }
            case 5: {
                int what = around(0, 2);
                alike("wave(" + what + ")", it.wave(what), model.wave(what));
                break;
            }
            case 6: {
                int k = around(1, men);
                alike("soon(" + k + ")", it.soon(k), model.soon(k));
                break;
            }
            case 7: {
                int n = upTo(2) == 0 ? upTo(5) : around(1, 100);
                alike("rubs(" + n + ")", it.rubs(n), model.rubs(n));
                break;
            }
            case 8:
                alike("still()", it.still(), model.still());
                break;
            case 9: {
                int what = around(0, 1);
                alike("round(" + what + ")", it.round(what), model.round(what));
                break;
            }
            case 10:
            case 11:
                alike("change(" + b + ", " + o + ")", it.change(b, o), model.change(b, o));
                break;
            case 12: {
                int law = around(0, laws);
                alike("teach(" + b + ", " + law + ")", it.teach(b, law), model.teach(b, law));
                break;
            }
            case 13:
            case 14: {
                int time = around(0, parts);
                alike("set(" + b + ", " + time + ")", it.set(b, time), model.set(b, time));
                break;
            }
            case 15: {
                int x = around(0, parts);
                alike("beat(" + x + ")", it.beat(x), model.beat(x));
                break;
            }
            default:
                dearCall(men, laws, b);
                break;
        }
    }

    private void dearCall(int men, int laws, int b) {
        int what = upTo(12) == 0 ? around(0, 2) : upTo(3);
        int n = upTo(12) == 0 ? around(1, 30) : 1 + upTo(6);
        switch (upTo(17)) {
            case 0:
                alike("seating(" + what + ", " + n + ")", it.seating(what, n), model.seating(what, n));
                break;
            case 1:
                alike("seat(" + what + ", " + n + ", " + b + ")", it.seat(what, n, b), model.seat(what, n, b));
                break;
            case 2:
                alike("better(" + what + ", " + n + ")", it.better(what, n), model.better(what, n));
                break;
            case 3: {
                int law = around(0, laws - 1);
                int m = upTo(10) == 0 ? around(1, 4) : 1 + upTo(2);
                alike("every(" + law + ", " + m + ", " + what + ")", it.every(law, m, what),
                    model.every(law, m, what));
                break;
            }
            case 4: {
                int to = upTo(10) == 0 ? around(1, 60) : n;
                alike("ram(" + to + ", " + what + ")", it.ram(to, what), model.ram(to, what));
                break;
            }
            case 5: {
                int strokes = upTo(10) == 0 ? around(1, 10) : 1 + upTo(5);
                int of = around(1, 9);
                int a = around(0, Math.min(Math.max(of, 0), 9));
                alike("odds(" + strokes + ", " + a + ", " + of + ")", it.odds(strokes, a, of),
                    model.odds(strokes, a, of));
                break;
            }
            case 6:
            case 7: {
                int stroke = upTo(4) == 0 ? around(0, 99) : upTo(4);
                boolean clashed = upTo(3) == 0;
                alike("tell(" + stroke + ", " + b + ", " + clashed + ")", it.tell(stroke, b, clashed),
                    model.tell(stroke, b, clashed));
                break;
            }
            case 8:
                if (upTo(4) == 0) {
                    alike("forget()", it.forget(), model.forget());
                }
                break;
            case 9:
            case 10: {
                int k = around(0, model.count(10));
                alike("suspects(" + what + ", " + k + ")", it.suspects(what, k), model.suspects(what, k));
                break;
            }
            case 11: {
                int k = around(0, model.count(10));
                int i = around(0, 4);
                alike("suspect(" + what + ", " + k + ", " + i + ")", it.suspect(what, k, i),
                    model.suspect(what, k, i));
                break;
            }
            case 12: {
                int k = around(0, model.count(10));
                int stroke = upTo(4) == 0 ? around(0, 99) : upTo(5);
                alike("check(" + what + ", " + k + ", " + stroke + ")", it.check(what, k, stroke),
                    model.check(what, k, stroke));
                break;
            }
            case 13: {
                int slot = around(0, 2);
                alike("hold(" + slot + ")", it.hold(slot), model.hold(slot));
                break;
            }
            case 14: {
                int slot = around(0, 2);
                alike("restore(" + slot + ")", it.restore(slot), model.restore(slot));
                break;
            }
            case 15: {
                int of = around(0, 12);
                alike("count(" + of + ")", it.count(of), model.count(of));
                break;
            }
            default:
                for (int w = -1; w <= 4; w++) {
                    alike("bench(" + b + ", " + w + ")", it.bench(b, w), model.bench(b, w));
                }
                break;
        }
    }
}
