/** The edges of a STROKE: TIMES, VARS, ints, COND, GAP, FOG, and the calls that row and undo. */
final class RowingEdges {
    private static final int MIN = Integer.MIN_VALUE;
    private static final int MAX = Integer.MAX_VALUE;
    // 2 to the 31st, which wraps to the least int.
    private static final String LEAST = "8192 * 8192 * 32";

    private RowingEdges() {
    }

    static void all() {
        laws();
        fog();
        calls();
    }

    private static void edge(String words, Runnable test) {
        Checks.edge("II", words, test);
    }

    /** Benches 0, 1, 2 with own 5, 9, 20; ahead 5, 5, 9; two 5, 5, 5; drum 3, 5, 7; song 7; 24 PARTS. */
    private static void law(String law, int a, int b, int c) {
        GalleyStroke x = Checks.fine("law x = " + law + "; man a x 5; man b x 9; man c x 20; drum 3 2; song 7;");
        x.row(1);
        Checks.times(x, a, b, c);
    }

    private static void law(String law, int all) {
        law(law, all, all, all);
    }

    private static void holds(String cond) {
        law("if " + cond + " then 1 else 2", 1);
        law("if not " + cond + " then 1 else 2", 2);
    }

    private static void laws() {
        edge("its rest by PARTS (0 and more)", () -> {
            law("0", 0);
            law("23", 23);
            law("24", 0);
            law("25", 1);
            law("9999", 15);
            law("0 - 1", 23);
            law("0 - 24", 0);
            law("0 - 25", 23);
            GalleyStroke three = Checks.fine("parts 3; law p = own + 1; law m = own - 1; man a p 2; man b m 0;");
            three.row(1);
            Checks.times(three, 0, 2);
        });
        edge("the first E whose COND holds, else the last one", RowingEdges::branches);
        edge("all get new TIMES at once", () -> {
            GalleyStroke x = Checks.fine("law c = ahead; law t = two; law n = own + 1;"
                + "man a n 4; man b c 6; man e t 8;");
            x.row(1);
            Checks.times(x, 5, 4, 4);
        });
        edge("ahead (BENCH 0: own); two (BENCH 0, 1: as ahead)", RowingEdges::whomTheySee);
        edge("bench: his BENCH", () -> {
            GalleyStroke x = Checks.fine("law n = bench;" + Texts.men("n", 9, 9, 9, 9, 9, 9, 9, 9, 9, 9, 9, 9));
            x.row(1);
            Checks.times(x, 0, 1, 2, 3, 4, 5, 6, 7, 8, 9, 10, 11);
        });
        edge("drum: the drum and LAG times BENCH, its rest by PARTS", RowingEdges::lag);
        edge("(in FOG, without a drum: own)", () -> {
            GalleyStroke fog = Checks.fine("law d = drum;" + Texts.men("d", 1, 2) + "drum 9 1; fog 0 0;");
            fog.row(1);
            Checks.times(fog, 1, 2);
            fog.row(1);
            Checks.times(fog, 9, 10);
            GalleyStroke none = Checks.fine("law d = drum;" + Texts.men("d", 1, 2));
            none.row(1);
            Checks.times(none, 1, 2);
        });
        edge("song: the part (without one: own)", () -> {
            GalleyStroke none = Checks.fine("law s = song;" + Texts.men("s", 1, 2));
            none.row(1);
            Checks.times(none, 1, 2);
            GalleyStroke least = Checks.fine("law s = song;" + Texts.men("s", 1, 2) + "song 0; fog 0 9;");
            least.row(1);
            Checks.times(least, 0, 0);
            GalleyStroke most = Checks.fine("law s = song;" + Texts.men("s", 1, 2) + "song 23;");
            most.row(1);
            Checks.times(most, 23, 23);
        });
        edge("ints of 32 bits that wrap", RowingEdges::wraps);
        edge("/ rounded towards 0", () -> {
            holds("7 / 2 == 3");
            holds("(0 - 7) / 2 == 0 - 3");
            holds("7 / (0 - 2) == 0 - 3");
            holds("(0 - 7) / (0 - 2) == 3");
            holds("1 / 2 == 0");
            holds("(0 - 1) / 2 == 0");
            holds("6 / 3 == 2");
            holds("(0 - 6) / 3 == 0 - 2");
        });
        edge("from the left on: + - * /", () -> {
            holds("20 - 5 - 3 == 12");
            holds("100 / 5 / 2 == 10");
            holds("100 / 5 * 2 == 40");
            holds("2 + 3 * 4 == 14");
            holds("20 - 6 / 2 == 17");
            holds("(2 + 3) * 4 == 20");
            holds("7 * 3 / 2 == 10");
        });
        edge("== != < <=", () -> {
            holds("3 == 3");
            holds("3 != 4");
            holds("3 < 4");
            holds("3 <= 3");
            holds("3 <= 4");
            holds("0 - 1 < 0");
            law("if 3 == 4 then 1 else 2", 2);
            law("if 3 != 3 then 1 else 2", 2);
            law("if 3 < 3 then 1 else 2", 2);
            law("if 4 <= 3 then 1 else 2", 2);
            law("if 4 < 3 then 1 else 2", 2);
        });
        edge("divided by 0 is own, if it is looked at", RowingEdges::dividedByZero);
        edge("or, and look at what they must, from the left on", RowingEdges::looksAt);
        edge("GAP: less PARTS if it is more than half of them", RowingEdges::gaps);
    }

    private static void branches() {
        StringBuilder s = new StringBuilder();
        for (int i = 1; i <= 8; i++) {
            s.append("if own == ").append(i).append(" then ").append(10 + i).append(" else ");
        }
        GalleyStroke x = Checks.fine("law x = " + s + "20;" + Texts.men("x", 1, 2, 3, 4, 5, 6, 7, 8, 9, 0));
        x.row(1);
        Checks.times(x, 11, 12, 13, 14, 15, 16, 17, 18, 20, 20);
        law("if own == own then 1 else if own == own then 2 else 3", 1);
        law("if own < 0 then 1 else if own == own then 2 else 3", 2);
        law("if own < 0 then 1 else if own < 0 then 2 else 3", 3);
    }

    private static void whomTheySee() {
        int[] begins = {20, 0, 2, 4, 6, 8, 10, 12, 14, 16, 18, 22};
        GalleyStroke ahead = Checks.fine("law s = ahead;" + Texts.men("s", begins));
        ahead.row(1);
        Checks.times(ahead, 20, 20, 0, 2, 4, 6, 8, 10, 12, 14, 16, 18);
        GalleyStroke two = Checks.fine("law s = two;" + Texts.men("s", begins));
        two.row(1);
        Checks.times(two, 20, 20, 20, 0, 2, 4, 6, 8, 10, 12, 14, 16);
        GalleyStroke own = Checks.fine("law s = own;" + Texts.men("s", begins));
        own.row(1);
        Checks.times(own, begins);
    }

    private static void lag() {
        String law = "law hear = drum;" + Texts.men("hear", 0, 0, 0, 0, 0, 0, 0, 0, 0, 0, 0, 0);
        GalleyStroke most = Checks.fine(law + "drum 23 23;");
        Checks.due("bench(11, 3)", most.bench(11, 3), 12);
        most.row(1);
        Checks.times(most, 23, 22, 21, 20, 19, 18, 17, 16, 15, 14, 13, 12);
        GalleyStroke three = Checks.fine("parts 3;" + law + "drum 2 23;");
        three.row(1);
        Checks.times(three, 2, 1, 0, 2, 1, 0, 2, 1, 0, 2, 1, 0);
        GalleyStroke none = Checks.fine(law + "drum 23 0;");
        none.row(1);
        Checks.times(none, 23, 23, 23, 23, 23, 23, 23, 23, 23, 23, 23, 23);
        GalleyStroke whole = Checks.fine("parts 23;" + law + "drum 22 23;");
        whole.row(1);
        Checks.times(whole, 22, 22, 22, 22, 22, 22, 22, 22, 22, 22, 22, 22);
        GalleyStroke around = Checks.fine("parts 12;" + law + "drum 11 1;");
        around.row(1);
        Checks.times(around, 11, 0, 1, 2, 3, 4, 5, 6, 7, 8, 9, 10);
    }

    private static void wraps() {
        holds(LEAST + " < 0");
        holds(LEAST + " - 1 == 8191 * 8192 * 32 + 8191 * 32 + 31");
        holds("0 < " + LEAST + " - 1");
        holds(LEAST + " - 1 + 1 < 0");
        holds("0 - (" + LEAST + ") == " + LEAST);
        holds("8192 * 8192 * 64 == 0");
        holds("(" + LEAST + ") / (0 - 1) == " + LEAST);
        holds("(" + LEAST + ") / 1 == " + LEAST);
        holds("9999 * 9999 * 9999 < 0 - 1");
        // The rest by PARTS of the least int and of the greatest.
        law(LEAST, 16);
        law(LEAST + " - 1", 7);
    }

    private static void dividedByZero() {
        law("1 / 0", 5, 9, 20);
        law("0 / 0", 5, 9, 20);
        law("1 + 2 * (3 / (own - own))", 5, 9, 20);
        law("0 * (1 / 0)", 5, 9, 20);
        law("gap(1 / 0, 2)", 5, 9, 20);
        law("gap(2, 1 / 0)", 5, 9, 20);
        law("10 / (own - 9)", 22, 9, 0);
        law("0 / 7", 0);
        // What is not looked at.
        law("if own == 9 then 3 else 8 / 0", 5, 3, 20);
        law("if own == 9 then 8 / 0 else 3", 3, 9, 3);
        law("if own == 9 then 3 else if 1 / 0 < 1 then 1 else 2", 5, 3, 20);
        law("if 1 / 0 < 1 then 1 else 2", 5, 9, 20);
        law("if 1 < 1 / 0 then 1 else 2", 5, 9, 20);
        law("if not 1 / 0 < 1 then 1 else 2", 5, 9, 20);
        law("if own < 0 then 1 / 0 else if own < 0 then 2 / 0 else 4", 4);
    }

    private static void looksAt() {
        law("if own == 9 or 1 / 0 < 1 then 1 else 2", 5, 1, 20);
        law("if 1 / 0 < 1 or own == 9 then 1 else 2", 5, 9, 20);
        law("if own == 9 and 1 / 0 < 1 then 1 else 2", 2, 9, 2);
        law("if 1 / 0 < 1 and own == 9 then 1 else 2", 5, 9, 20);
        law("if own == 9 and 1 / 0 < 1 or bench == 0 then 1 else 2", 1, 9, 2);
        law("if bench == 0 or own == 9 and 1 / 0 < 1 then 1 else 2", 1, 9, 2);
        law("if bench == 0 and own == 5 or 1 / 0 < 1 then 1 else 2", 1, 9, 20);
        law("if own < 0 and 1 / 0 < 1 and 1 / 0 < 1 then 1 else 2", 2);
        law("if own == own or 1 / 0 < 1 or 1 / 0 < 1 and 1 / 0 < 1 then 1 else 2", 1);
        law("if own == own or 1 / 0 < 1 and own < 0 then 1 else 2", 1);
        law("if own < 0 and 1 / 0 < 1 or own < 0 and 1 / 0 < 1 or own == 9 then 1 else 2", 2, 1, 2);
        // And binds closer than or; not but what is next to it.
        law("if own == own or own < 0 and own < 0 then 1 else 2", 1);
        law("if own < 0 and own < 0 or own == own then 1 else 2", 1);
        law("if not own < 0 and own == 9 then 1 else 2", 2, 1, 2);
        law("if not own < 0 or own == own then 1 else 2", 1);
        law("if not not own == 9 then 1 else 2", 2, 1, 2);
        law("if not not not own == 9 then 1 else 2", 1, 2, 1);
    }

    /** The GAP of two BENCHES is told by wave(2), where it is not 0. */
    private static void gap(int parts, int ahead, int own, int want) {
        Checks.due("GAP (" + own + ", " + ahead + ") of " + parts,
            Checks.fine(Texts.standing(parts, ahead, own)).wave(2), want);
    }

    private static void gaps() {
        gap(24, 0, 1, 1);
        gap(24, 0, 11, 11);
        gap(24, 0, 12, 12);
        gap(24, 12, 0, 12);
        gap(24, 0, 13, -11);
        gap(24, 0, 23, -1);
        gap(24, 23, 0, 1);
        gap(23, 0, 11, 11);
        gap(23, 0, 12, -11);
        gap(23, 12, 0, 11);
        gap(3, 0, 1, 1);
        gap(3, 0, 2, -1);
        gap(3, 2, 0, 1);
        gap(4, 0, 2, 2);
        gap(4, 0, 3, -1);
        gap(5, 0, 2, 2);
        gap(5, 0, 3, -2);
        Checks.due("GAP 0", Checks.fine(Texts.standing(24, 5, 5)).wave(2), -2);
        // In a LAW, of any ints.
        holds("gap(12, 0) == 12");
        holds("gap(13, 0) == 0 - 11");
        holds("gap(0, 12) == 12");
        holds("gap(0, 11) == 0 - 11");
        holds("gap(24, 0) == 0");
        holds("gap(9999, 0) == 0 - 9");
        holds("gap(0, 9999) == 9");
        holds("gap(0 - 25, 0) == 0 - 1");
        // a - b wraps, too: the least int, whose rest is 16.
        holds("gap(" + LEAST + " - 1, 0 - 1) == 0 - 8");
        holds("gap(" + LEAST + ", 0) == 0 - 8");
    }

    // ---- FOG

    private static void fog() {
        edge("FOG of a stroke is that of its number", RowingEdges::fogByNumber);
        edge("(0 .. 999)", () -> {
            GalleyStroke x = Checks.fine("law d = drum + 1; man a d 0; drum 5 0; fog 999 999;");
            for (int i = 0; i < 9; i++) {
                x.row(100);
            }
            x.row(98);
            Checks.due("FOG of 998", x.count(12), 0);
            x.row(1);
            Checks.due("FOG of 999", x.count(12), 1);
            Checks.times(x, 6);
            Checks.due("the next one", x.row(1), 1000);
            Checks.times(x, 7);
            Checks.due("FOG of 1000", x.count(12), 0);
            x.row(1);
            Checks.times(x, 6);
        });
        edge("FOG, 4 of them, over one another or not", () -> {
            GalleyStroke x = Checks.fine("fog 1 1; fog 3 5; fog 4 6; fog 8 8;");
            int[] fogs = {0, 1, 0, 1, 1, 1, 1, 0, 1, 0};
            for (int stroke = 0; stroke < fogs.length; stroke++) {
                Checks.due("FOG of " + stroke, x.count(12), fogs[stroke]);
                x.row(1);
            }
        });
    }

    private static void fogByNumber() {
        GalleyStroke x = Checks.fine("law d = drum + 1; man a d 0; drum 10 0; fog 2 4;");
        int[] times = {0, 11, 11, 12, 13, 14, 11};
        for (int stroke = 0; stroke < times.length; stroke++) {
            boolean fog = stroke >= 2 && stroke <= 4;
            Checks.times(x, times[stroke]);
            Checks.due("FOG of " + stroke, x.count(12), fog ? 1 : 0);
            Checks.due("bench(0, 3) of " + stroke, x.bench(0, 3), fog ? times[stroke] : 10);
            Checks.due("row(1)", x.row(1), stroke + 1);
        }
        GalleyStroke first = Checks.fine("law d = drum; man a d 0; drum 10 0; fog 0 0;");
        first.row(1);
        Checks.times(first, 0);
        first.row(1);
        Checks.times(first, 10);
    }

    // ---- 6 to 8

    private static void calls() {
        Checks.edge("Promise 6", "what 0 the TIME .. 3 when he hears the drum now. NONE for others",
            RowingEdges::bench);
        Checks.edge("Promise 7", "n STROKES (0 .. 100) are rowed", () -> {
            GalleyStroke x = Checks.fine("law k = own + 1; man a k 0;");
            Checks.due("row(0)", x.row(0), 0);
            Checks.times(x, 0);
            Checks.due("row(1)", x.row(1), 1);
            Checks.times(x, 1);
            Checks.due("row(99)", x.row(99), 100);
            Checks.times(x, 4);
            Checks.due("row(100)", x.row(100), 200);
            Checks.times(x, 8);
            Checks.due("row(0)", x.row(0), 200);
        });
        Checks.edge("Promise 7", "NONE, and nothing happens: no such n", () -> {
            GalleyStroke x = Checks.fine("law k = own + 1; man a k 0;");
            x.row(3);
            long[] before = Checks.seen(x);
            for (int wrong : new int[] {-1, 101, MIN, MAX}) {
                Checks.due("row(" + wrong + ")", x.row(wrong), -1);
            }
            Checks.unchanged("row()", x, before);
            Checks.due("of no men", new GalleyStroke().row(101), -1);
        });
        Checks.edge("Promise 8", "the last STROKE is undone .. false: there is none", RowingEdges::undo);
        Checks.edge("Promise 8", "(the last 100 can be)", RowingEdges::undoHundred);
        Checks.edge("Promise 8", "(what was changed by hand since stays but for TIMES)", RowingEdges::undoByHand);
    }

    private static void bench() {
        GalleyStroke x = Checks.fine("parts 12; law p = own; law q = own; man a q 4; man b p 11; drum 10 3;");
        int[][] want = {{4, 0, 1, 10}, {11, 1, 0, 1}};
        for (int b = 0; b < 2; b++) {
            for (int what = 0; what < 4; what++) {
                Checks.due("bench(" + b + ", " + what + ")", x.bench(b, what), want[b][what]);
            }
            for (int wrong : new int[] {-1, 4, MIN, MAX}) {
                Checks.due("bench(" + b + ", " + wrong + ")", x.bench(b, wrong), -1);
            }
        }
        for (int wrong : new int[] {-1, 2, 11, 12, 32, MIN, MAX}) {
            for (int what = 0; what < 4; what++) {
                Checks.due("bench(" + wrong + ", " + what + ")", x.bench(wrong, what), -1);
            }
        }
        Checks.due("of no men", new GalleyStroke().bench(0, 0), -1);
        Checks.due("without a drum", Checks.fine(Texts.standing(24, 7, 8)).bench(1, 3), 8);
        Checks.due("in FOG", Checks.fine(Texts.standing(24, 7, 8) + "drum 1 1; fog 0 0;").bench(1, 3), 8);
        Checks.due("without FOG", Checks.fine(Texts.standing(24, 7, 8) + "drum 1 1; fog 1 1;").bench(1, 3), 2);
        GalleyStroke full = Checks.fine(Texts.standing(24, 0, 0, 0, 0, 0, 0, 0, 0, 0, 0, 0, 23));
        Checks.due("bench(11, 0)", full.bench(11, 0), 23);
        Checks.due("bench(12, 0)", full.bench(12, 0), -1);
    }

    private static void undo() {
        GalleyStroke x = Checks.fine("law k = own + 1; man a k 23;");
        Checks.due("undo() of none", x.undo(), false);
        Checks.due("the stroke", x.count(3), 0);
        Checks.times(x, 23);
        x.row(0);
        Checks.due("undo() of row(0)", x.undo(), false);
        x.row(1);
        Checks.due("undo()", x.undo(), true);
        Checks.due("the stroke", x.count(3), 0);
        Checks.times(x, 23);
        Checks.due("undo() of none", x.undo(), false);
        x.row(2);
        x.undo();
        x.row(1);
        Checks.times(x, 1);
        Checks.due("undo()", x.undo(), true);
        Checks.due("undo()", x.undo(), true);
        Checks.due("undo() of none", x.undo(), false);
        Checks.times(x, 23);
    }

    private static void undoHundred() {
        GalleyStroke x = Checks.fine("law k = own + 1; man a k 0;");
        x.row(100);
        for (int i = 99; i >= 0; i--) {
            Checks.due("undo()", x.undo(), true);
            Checks.times(x, i % 24);
        }
        Checks.due("undo() 101", x.undo(), false);
        GalleyStroke more = Checks.fine("law k = own + 1; man a k 0;");
        more.row(100);
        more.row(1);
        for (int i = 100; i >= 1; i--) {
            Checks.due("undo()", more.undo(), true);
            Checks.times(more, i % 24);
        }
        Checks.due("undo() 101", more.undo(), false);
        Checks.due("the stroke", more.count(3), 1);
        Checks.times(more, 1);
    }

    private static void undoByHand() {
        GalleyStroke x = Checks.fine("law k = own + 1; law z = own + 2; man a k 1; man b k 5; drum 3 4;");
        x.row(1);
        x.set(0, 20);
        x.teach(1, 1);
        x.change(0, 1);
        x.beat(9);
        x.tell(7, 1, true);
        x.hold(2);
        Checks.due("undo()", x.undo(), true);
        Checks.times(x, 1, 5);
        Checks.due("man", x.bench(0, 1), 1);
        Checks.due("man", x.bench(1, 1), 0);
        Checks.due("LAW", x.bench(0, 2), 1);
        Checks.due("LAW", x.bench(1, 2), 0);
        Checks.due("the drum", x.count(4), 9);
        Checks.due("TOLD", x.count(10), 1);
        Checks.due("SLOTS", x.count(11), 1);
        // A set() ahead of a STROKE comes back with it.
        x.set(0, 12);
        x.row(1);
        Checks.due("undo()", x.undo(), true);
        Checks.times(x, 12, 5);
        Checks.due("restore(2)", x.restore(2), true);
        Checks.times(x, 6, 20);
        Checks.due("the stroke", x.count(3), 1);
    }
}
