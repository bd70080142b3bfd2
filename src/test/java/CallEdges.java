/** The edges of the tape, of what is changed by hand, of SLOTS and counts. */
final class CallEdges {
    private static final int MIN = Integer.MIN_VALUE;
    private static final int MAX = Integer.MAX_VALUE;
    private static final int BLANK = 0x20202020;
    private static final String CREW = "parts 12; law copy = ahead; law beat = drum; law fix = own;"
        + "man a beat 0; man b copy 3; man c fix 9; drum 10 3; song 2; fog 1 1;";

    private CallEdges() {
    }

    static void all() {
        Checks.edge("What it is", "at most 512 calls", CallEdges::lastCalls);
        Checks.edge("Promise 1", "as if an empty text had been read", CallEdges::newObject);
        tape();
        byHand();
        slots();
        Checks.edge("Promise 33", "0 PARTS .. 12: 1 if this stroke is in FOG, else 0. NONE for others",
            CallEdges::counts);
        Checks.edge("Promise 33", "9 STROKES that can be undone", CallEdges::countOfUndo);
        Checks.edge("Promise 33", "4 the drum (-2: none), 6 the song (-2: none)", () -> {
            GalleyStroke none = Checks.fine("parts 3;");
            Checks.due("no drum", none.count(4), -2);
            Checks.due("no LAG", none.count(5), 0);
            Checks.due("no song", none.count(6), -2);
            GalleyStroke least = Checks.fine("parts 3; drum 0 0; song 0;");
            Checks.due("the least drum", least.count(4), 0);
            Checks.due("the least song", least.count(6), 0);
        });
    }

    private static void lastCalls() {
        GalleyStroke x = new GalleyStroke();
        for (int i = 1; i <= 511; i++) {
            Checks.due("row(100) " + i, x.row(100), 100 * i);
        }
        Checks.due("the 512th call", x.count(3), 51100);
        // What later ones answer is free, but none may throw.
        for (int i = 0; i < 200; i++) {
            x.row(100);
            x.undo();
            x.feed(i, i, i, i, i);
        }
        x.read();
        Checks.seen(x);
    }

    private static void newObject() {
        GalleyStroke x = new GalleyStroke();
        long[] before = Checks.seen(x);
        Checks.due("place()", x.place(), -1);
        Checks.due("undo()", x.undo(), false);
        Checks.due("forget()", x.forget(), 0);
        for (int slot = 0; slot < 3; slot++) {
            Checks.due("restore()", x.restore(slot), false);
        }
        Checks.due("read() of an empty tape", x.read(), 0);
        Checks.unchanged("an empty text", x, before);
        GalleyStroke full = Checks.fine(CREW);
        full.row(2);
        Checks.due("read() of an empty tape", full.read(), 0);
        Checks.unchanged("an empty text", full, before);
    }

    // ---- 2 to 5

    private static void tape() {
        Checks.edge("Promise 2", "twenty bytes, the highest of a first, come behind the tape", CallEdges::bytesInOrder);
        Checks.edge("Promise 2", "NONE, and nothing comes, if it would have more than 2,000", CallEdges::fullTape);
        Checks.edge("Promise 3", "the last n bytes of the tape go", CallEdges::back);
        Checks.edge("Promise 3", "NONE, and nothing goes, if it has not so many, or n is below 0", CallEdges::noBack);
        Checks.edge("Promise 4", "the tape, which is empty then, is read", CallEdges::emptyTape);
        Checks.edge("Promise 4", "0, or the number of its FAULT", () -> {
            String[] texts = {"song 1;", "song 1", Texts.many("fog 1 1;", 5), "law a = own; law a = own;",
                "man a b 1;", "parts 2;", "song 24;"};
            for (int fault = 0; fault < texts.length; fault++) {
                Checks.due("read()", Feeding.read(new GalleyStroke(), texts[fault]), fault);
            }
        });
        Checks.edge("Promise 5", "the byte of the latest read()'s FAULT; NONE without", CallEdges::place);
    }

    private static void bytesInOrder() {
        // "law a = own" ";song 3 ;" over five ints, none of whose bytes may change places.
        GalleyStroke x = new GalleyStroke();
        Checks.due("feed()", x.feed(0x6c617720, 0x61203d20, 0x6f776e3b, 0x736f6e67, 0x2033203b), 20);
        Checks.due("feed()", x.feed(0x736f6e67, 0x2037203b, BLANK, BLANK, BLANK), 40);
        Checks.due("read()", x.read(), 0);
        Checks.due("song", x.count(6), 7);
        // Every bit of a byte counts, the highest, too.
        for (int i = 0; i < 5; i++) {
            for (int shift = 0; shift < 32; shift += 8) {
                int[] words = {BLANK, BLANK, BLANK, BLANK, BLANK};
                words[i] = BLANK | 0x80 << shift;
                GalleyStroke one = new GalleyStroke();
                one.feed(words[0], words[1], words[2], words[3], words[4]);
                Checks.due("read()", one.read(), 1);
                Checks.due("place()", one.place(), 4 * i + 3 - shift / 8);
            }
        }
        GalleyStroke ones = new GalleyStroke();
        Checks.due("feed() of ones", ones.feed(-1, -1, -1, -1, -1), 20);
        Checks.due("read() of ones", ones.read(), 1);
        Checks.due("place() of ones", ones.place(), 0);
    }

    private static GalleyStroke fed(int feeds) {
        GalleyStroke x = new GalleyStroke();
        for (int i = 1; i <= feeds; i++) {
            Checks.due("feed " + i, x.feed(BLANK, BLANK, BLANK, BLANK, BLANK), 20 * i);
        }
        return x;
    }

    private static void fullTape() {
        GalleyStroke full = fed(100);
        Checks.due("feed() at 2,000", full.feed(-1, -1, -1, -1, -1), -1);
        Checks.due("bytes", full.count(8), 2000);
        Checks.due("nothing came", full.read(), 0);
        GalleyStroke most = fed(100);
        most.back(19);
        Checks.due("feed() at 1,981", most.feed(-1, -1, -1, -1, -1), -1);
        Checks.due("bytes", most.count(8), 1981);
        most.back(1);
        Checks.due("feed() at 1,980", most.feed(BLANK, BLANK, BLANK, BLANK, -1), 2000);
        Checks.due("read()", most.read(), 1);
        Checks.due("place()", most.place(), 1996);
        Checks.due("feed() behind read()", most.feed(BLANK, BLANK, BLANK, BLANK, BLANK), 20);
    }

    private static void back() {
        GalleyStroke x = new GalleyStroke();
        Feeding.put(x, "parts 9; parts 8;   ");
        Checks.due("back(0)", x.back(0), 20);
        Checks.due("back(11)", x.back(11), 9);
        Checks.due("read()", x.read(), 0);
        Checks.due("PARTS", x.count(0), 9);
        Feeding.put(x, "?");
        Checks.due("back(1), all of them", x.back(1), 0);
        Feeding.put(x, "song 2;");
        Checks.due("read()", x.read(), 0);
        GalleyStroke full = fed(100);
        Checks.due("back(2000)", full.back(2000), 0);
    }

    private static void noBack() {
        GalleyStroke x = new GalleyStroke();
        Checks.due("back(0) of none", x.back(0), 0);
        Checks.due("back(1) of none", x.back(1), -1);
        Feeding.put(x, "parts 9; song 3");
        for (int n : new int[] {16, 20, 2001, -1, MIN, MAX}) {
            Checks.due("back(" + n + ") of 15", x.back(n), -1);
            Checks.due("bytes", x.count(8), 15);
        }
        Checks.due("back(15)", x.back(15), 0);
        Checks.due("back(2001) of 2000", fed(100).back(2001), -1);
    }

    private static void emptyTape() {
        GalleyStroke x = Checks.fine("parts 9;");
        Checks.due("bytes behind a text", x.count(8), 0);
        Feeding.put(x, "parts 9");
        Checks.due("read()", x.read(), 1);
        Checks.due("bytes behind a FAULT", x.count(8), 0);
        Checks.due("PARTS stay", x.count(0), 9);
        Checks.due("read() of nothing", x.read(), 0);
        Checks.due("PARTS of an empty text", x.count(0), 24);
    }

    private static void place() {
        GalleyStroke x = new GalleyStroke();
        Checks.due("place() ahead of all", x.place(), -1);
        Checks.due("read()", Feeding.read(x, "?"), 1);
        Checks.due("place() at the first byte", x.place(), 0);
        Checks.due("read()", Feeding.read(x, "parts 2;"), 5);
        Feeding.put(x, "song 1");
        x.back(1);
        x.row(1);
        Checks.due("place() stays till the next read()", x.place(), 6);
        x.read();
        Checks.due("place() at the end", x.place(), 5);
        Checks.due("read()", x.read(), 0);
        Checks.due("place() without a FAULT", x.place(), -1);
        GalleyStroke full = fed(99);
        full.feed(BLANK, BLANK, BLANK, BLANK, 0x20206f72);
        Checks.due("read()", full.read(), 1);
        Checks.due("place() of 2,000 bytes", full.place(), 1998);
    }

    // ---- 16 to 19

    private static void byHand() {
        Checks.edge("Promise 16", "two BENCHES' men are exchanged, with their TIMES", CallEdges::change);
        Checks.edge("Promise 16", "false: no such ones, one and the same", CallEdges::noChange);
        Checks.edge("Promise 17", "the man on a BENCH rows by a LAW from now on", CallEdges::teach);
        Checks.edge("Promise 18", "his TIME is told anew (0 .. PARTS - 1)", CallEdges::set);
        Checks.edge("Promise 19", "the drum is beaten at x (0 .. PARTS - 1)", CallEdges::beat);
        Checks.edge("Promise 19", "(a LAG of 0 if there was none)", () -> {
            GalleyStroke x = Checks.fine("parts 5; law d = drum;" + Texts.men("d", 1, 2, 3));
            Checks.due("beat(5)", x.beat(5), false);
            Checks.due("no drum still", x.count(4), -2);
            Checks.due("beat(4)", x.beat(4), true);
            Checks.due("LAG", x.count(5), 0);
            Checks.due("bench(2, 3)", x.bench(2, 3), 4);
            x.row(1);
            Checks.times(x, 4, 4, 4);
        });
    }

    private static void change() {
        int[] begins = {0, 1, 2, 3, 4, 5, 6, 7, 8, 9, 10, 11};
        GalleyStroke x = Checks.fine("law p = own; law q = own;" + Texts.men("p", begins));
        x.teach(11, 1);
        Checks.due("change(0, 11)", x.change(0, 11), true);
        Checks.times(x, 11, 1, 2, 3, 4, 5, 6, 7, 8, 9, 10, 0);
        Checks.due("man", x.bench(0, 1), 11);
        Checks.due("man", x.bench(11, 1), 0);
        Checks.due("LAW", x.bench(0, 2), 1);
        Checks.due("LAW", x.bench(11, 2), 0);
        Checks.due("change(11, 0)", x.change(11, 0), true);
        Checks.times(x, begins);
    }

    private static void noChange() {
        GalleyStroke x = Checks.fine(CREW);
        long[] before = Checks.seen(x);
        int[][] wrong = {{0, 0}, {2, 2}, {3, 0}, {0, 3}, {-1, 0}, {0, -1}, {3, 3}, {-1, -1}, {12, 0}, {MIN, 1},
            {1, MIN}, {MAX, 1}, {1, MAX}, {32, 0}, {0, 64}};
        for (int[] w : wrong) {
            Checks.due("change(" + w[0] + ", " + w[1] + ")", x.change(w[0], w[1]), false);
        }
        Checks.unchanged("change()", x, before);
        Checks.due("change(0, 2)", x.change(0, 2), true);
        Checks.due("of no men", new GalleyStroke().change(0, 1), false);
        Checks.due("of one man", Checks.fine(Texts.standing(24, 1)).change(0, 1), false);
    }

    private static void teach() {
        GalleyStroke x = Checks.fine(CREW);
        long[] before = Checks.seen(x);
        int[][] wrong = {{0, 3}, {0, -1}, {3, 0}, {-1, 0}, {12, 0}, {0, MAX}, {0, MIN}, {MAX, 0}, {MIN, 0}, {0, 6}};
        for (int[] w : wrong) {
            Checks.due("teach(" + w[0] + ", " + w[1] + ")", x.teach(w[0], w[1]), false);
        }
        Checks.unchanged("teach()", x, before);
        Checks.due("teach(0, 2)", x.teach(0, 2), true);
        Checks.due("teach(2, 0)", x.teach(2, 0), true);
        Checks.due("teach(1, 0), his own", x.teach(1, 0), true);
        x.row(1);
        Checks.times(x, 0, 0, 3);
        Checks.due("of no men", Checks.fine("law a = own;").teach(0, 0), false);
        GalleyStroke six = Checks.fine(Texts.many("law # = bench;", 6) + "man x a 1;");
        Checks.due("teach(0, 5)", six.teach(0, 5), true);
        Checks.due("teach(0, 6)", six.teach(0, 6), false);
        Checks.due("LAW", six.bench(0, 2), 5);
    }

    private static void set() {
        GalleyStroke x = Checks.fine(CREW);
        long[] before = Checks.seen(x);
        int[][] wrong = {{0, 12}, {0, -1}, {3, 0}, {-1, 0}, {12, 0}, {0, 32}, {0, MAX}, {0, MIN}, {MAX, 0}, {MIN, 0}};
        for (int[] w : wrong) {
            Checks.due("set(" + w[0] + ", " + w[1] + ")", x.set(w[0], w[1]), false);
        }
        Checks.unchanged("set()", x, before);
        Checks.due("set(0, 11)", x.set(0, 11), true);
        Checks.due("set(2, 0)", x.set(2, 0), true);
        Checks.times(x, 11, 3, 0);
        Checks.due("of no men", new GalleyStroke().set(0, 0), false);
        GalleyStroke full = Checks.fine(Texts.standing(24, 0, 0, 0, 0, 0, 0, 0, 0, 0, 0, 0, 0));
        Checks.due("set(11, 23)", full.set(11, 23), true);
        Checks.due("set(11, 24)", full.set(11, 24), false);
        Checks.due("set(10, 23)", full.set(10, 23), true);
        Checks.times(full, 0, 0, 0, 0, 0, 0, 0, 0, 0, 0, 23, 23);
        GalleyStroke least = Checks.fine(Texts.standing(3, 0));
        Checks.due("set(0, 2)", least.set(0, 2), true);
        Checks.due("set(0, 3)", least.set(0, 3), false);
    }

    private static void beat() {
        GalleyStroke x = Checks.fine(CREW);
        long[] before = Checks.seen(x);
        for (int wrong : new int[] {12, 13, -1, -2, 24, MIN, MAX}) {
            Checks.due("beat(" + wrong + ")", x.beat(wrong), false);
        }
        Checks.unchanged("beat()", x, before);
        Checks.due("beat(11)", x.beat(11), true);
        Checks.due("the drum", x.count(4), 11);
        Checks.due("beat(0)", x.beat(0), true);
        Checks.due("the drum", x.count(4), 0);
        Checks.due("LAG stays", x.count(5), 3);
        Checks.due("bench(2, 3)", x.bench(2, 3), 6);
        GalleyStroke bare = new GalleyStroke();
        Checks.due("beat(23) of no men", bare.beat(23), true);
        Checks.due("beat(24) of no men", bare.beat(24), false);
        Checks.due("the drum", bare.count(4), 23);
    }

    // ---- 31, 32, 33

    private static void slots() {
        Checks.edge("Promise 31", "held in a SLOT (0 .. 2): true; false: no such one", CallEdges::hold);
        Checks.edge("Promise 31", "TIMES, men, LAWS, the drum, the stroke are held", CallEdges::whatIsHeld);
        Checks.edge("Promise 32", "false, and nothing happens: no such one, nothing is held", CallEdges::noRestore);
        Checks.edge("Promise 32", "(that stays there; nothing can be undone then)", () -> {
            GalleyStroke x = Checks.fine(CREW);
            x.hold(0);
            for (int i = 0; i < 3; i++) {
                x.row(3);
                x.set(2, 1);
                Checks.due("can be undone", x.count(9), 3);
                Checks.due("restore(0)", x.restore(0), true);
                Checks.due("can be undone", x.count(9), 0);
                Checks.due("undo()", x.undo(), false);
                Checks.due("the stroke", x.count(3), 0);
                Checks.times(x, 0, 3, 9);
                Checks.due("SLOTS", x.count(11), 1);
            }
        });
    }

    private static void hold() {
        GalleyStroke x = Checks.fine(CREW);
        for (int wrong : new int[] {-1, 3, 4, MIN, MAX}) {
            Checks.due("hold(" + wrong + ")", x.hold(wrong), false);
        }
        Checks.due("SLOTS", x.count(11), 0);
        int[] order = {2, 0, 1};
        for (int i = 0; i < 3; i++) {
            Checks.due("hold()", x.hold(order[i]), true);
            Checks.due("SLOTS", x.count(11), i + 1);
            x.row(1);
        }
        Checks.due("hold() of a full one", x.hold(1), true);
        Checks.due("SLOTS", x.count(11), 3);
        int[] strokes = {1, 3, 0};
        for (int slot = 0; slot < 3; slot++) {
            Checks.due("restore()", x.restore(slot), true);
            Checks.due("the stroke", x.count(3), strokes[slot]);
        }
        Checks.due("hold() of no men", new GalleyStroke().hold(0), true);
    }

    private static void whatIsHeld() {
        GalleyStroke x = Checks.fine(CREW);
        x.row(2);
        x.change(0, 2);
        x.teach(1, 2);
        x.beat(7);
        x.set(1, 8);
        long[] before = Checks.seen(x);
        x.hold(1);
        x.change(1, 2);
        x.teach(0, 1);
        x.beat(1);
        x.row(5);
        x.set(0, 5);
        Checks.due("restore(1)", x.restore(1), true);
        // But for what can be undone (count 9) and SLOTS (count 11) all is as it was.
        before[9] = 0;
        before[11] = 1;
        Checks.unchanged("restore()", x, before);
        GalleyStroke bare = Checks.fine(Texts.standing(24, 1, 2));
        bare.hold(0);
        bare.beat(0);
        bare.tell(0, 1, false);
        bare.restore(0);
        Checks.due("no drum", bare.count(4), -2);
        Checks.due("what was TOLD stays", bare.count(10), 1);
    }

    private static void noRestore() {
        GalleyStroke x = Checks.fine(CREW);
        x.hold(1);
        x.row(4);
        long[] before = Checks.seen(x);
        for (int wrong : new int[] {-1, 0, 2, 3, MIN, MAX}) {
            Checks.due("restore(" + wrong + ")", x.restore(wrong), false);
        }
        Checks.unchanged("restore()", x, before);
        Checks.due("undo()", x.undo(), true);
        Checks.due("restore(1)", x.restore(1), true);
        GalleyStroke anew = Checks.fine(CREW);
        anew.hold(2);
        Checks.due("restore(2)", anew.restore(2), true);
        Checks.due("read()", Feeding.read(anew, CREW), 0);
        Checks.due("restore(2) behind read()", anew.restore(2), false);
    }

    private static void counts() {
        GalleyStroke x = Checks.fine(CREW);
        x.row(1);
        x.tell(5, 1, false);
        x.tell(5, 2, false);
        x.hold(0);
        x.hold(2);
        Feeding.put(x, "parts");
        int[] want = {12, 3, 3, 1, 10, 3, 2, 1, 5, 1, 2, 2, 1};
        for (int what = 0; what < want.length; what++) {
            Checks.due("count(" + what + ")", x.count(what), want[what]);
        }
        for (int wrong : new int[] {-1, 13, 14, MIN, MAX}) {
            Checks.due("count(" + wrong + ")", x.count(wrong), -1);
        }
        x.row(1);
        Checks.due("FOG is over", x.count(12), 0);
        x.undo();
        Checks.due("FOG of the stroke ahead", x.count(12), 1);
        x.undo();
        Checks.due("no FOG yet", x.count(12), 0);
    }

    private static void countOfUndo() {
        GalleyStroke x = new GalleyStroke();
        x.row(99);
        Checks.due("99", x.count(9), 99);
        x.row(1);
        Checks.due("100", x.count(9), 100);
        x.row(1);
        Checks.due("101", x.count(9), 100);
        x.undo();
        Checks.due("one undone", x.count(9), 99);
        x.row(0);
        Checks.due("none rowed", x.count(9), 99);
        x.row(1);
        Checks.due("one rowed", x.count(9), 100);
    }
}
