/** The edges of what is seen of TIMES and of the strokes to come: CLASHES, WAY, WAVE, STILL, ROUND. */
final class SightEdges {
    private static final int MIN = Integer.MIN_VALUE;
    private static final int MAX = Integer.MAX_VALUE;
    // A front man who counts, and one behind him who counts his turns.
    private static final String METER = "parts 20; law k = own + 1; law z = if ahead == 0 then own + 1 else own;"
        + "law stop = if ahead == 0 and own < 19 then own + 1 else own; law copy = ahead;";

    private SightEdges() {
    }

    static void all() {
        clashes();
        way();
        wave();
        ahead();
        stillAndRound();
    }

    private static GalleyStroke at(int parts, int... times) {
        return Checks.fine(Texts.standing(parts, times));
    }

    // ---- 9

    private static void clashes() {
        Checks.edge("II", "CLASHES: a third of PARTS (rounded up) or more, without its sign", () -> {
            int[][] thirds = {{3, 1}, {4, 2}, {5, 2}, {6, 2}, {7, 3}, {8, 3}, {9, 3}, {10, 4}, {11, 4}, {12, 4},
                {21, 7}, {22, 8}, {23, 8}, {24, 8}};
            for (int[] of : thirds) {
                int parts = of[0];
                int third = of[1];
                String by = " of " + parts;
                Checks.due("a third" + by, at(parts, 0, third).clashes(), 2);
                Checks.due("less" + by, at(parts, 0, third - 1).clashes(), 0);
                Checks.due("the other way" + by, at(parts, 0, parts - third).clashes(), 2);
                Checks.due("less the other way" + by, at(parts, 0, (parts - third + 1) % parts).clashes(), 0);
                Checks.due("around" + by, at(parts, third, 0).clashes(), 2);
                Checks.due("half" + by, at(parts, 0, parts / 2).clashes(), 2);
            }
        });
        Checks.edge("Promise 9", "CLASHES now (bits of BENCHES)", () -> {
            Checks.due("no men", new GalleyStroke().clashes(), 0);
            Checks.due("one man", at(24, 23).clashes(), 0);
            Checks.due("bench 1", at(24, 0, 12).clashes(), 2);
            Checks.due("bench 2", at(24, 0, 0, 12).clashes(), 4);
            Checks.due("bench 11", at(24, 0, 0, 0, 0, 0, 0, 0, 0, 0, 0, 0, 12).clashes(), 2048);
            Checks.due("all", at(24, 0, 12, 0, 12, 0, 12, 0, 12, 0, 12, 0, 12).clashes(), 4094);
            Checks.due("none", at(24, 5, 5, 5).clashes(), 0);
        });
    }

    // ---- 10

    private static void wayOf(GalleyStroke x, int way, int part) {
        Checks.due("way(0)", x.way(0), way);
        Checks.due("way(1)", x.way(1), part);
    }

    private static void way() {
        Checks.edge("II", "WAY: not more than 1 part from it (either way round)", () -> {
            wayOf(at(24, 5, 6), 2, 5);
            wayOf(at(24, 5, 7), 2, 6);
            wayOf(at(24, 5, 8), 1, 4);
            wayOf(at(24, 23, 1), 2, 0);
            wayOf(at(24, 1, 22), 1, 0);
            wayOf(at(24, 0, 22), 2, 23);
            wayOf(at(24, 0, 21), 1, 0);
            wayOf(at(3, 0, 1, 2), 3, 0);
            wayOf(at(4, 0, 2), 2, 1);
            wayOf(at(4, 0, 1, 2, 3), 3, 0);
            wayOf(at(24, 7, 7, 7, 7, 7, 7, 7, 7, 7, 7, 7, 7), 12, 6);
        });
        Checks.edge("Promise 10", "1 the part (the least of alike ones)", () -> {
            wayOf(at(24, 12, 5), 1, 4);
            wayOf(at(24, 23, 12), 1, 0);
            wayOf(at(24, 0, 23), 2, 0);
            wayOf(at(24, 22, 23), 2, 22);
            wayOf(at(24, 0), 1, 0);
            wayOf(at(24, 1), 1, 0);
            wayOf(at(24, 2), 1, 1);
            wayOf(at(24, 22), 1, 21);
            wayOf(at(24, 23), 1, 0);
        });
        Checks.edge("Promise 10", "NONE: no such what, no men", () -> {
            GalleyStroke x = at(24, 5, 6);
            for (int wrong : new int[] {-1, 2, MIN, MAX}) {
                Checks.due("way(" + wrong + ")", x.way(wrong), -1);
            }
            Checks.due("no men", new GalleyStroke().way(0), -1);
            Checks.due("no men", new GalleyStroke().way(1), -1);
            Checks.due("no men, a LAW", Checks.fine("law a = own;").way(0), -1);
        });
    }

    // ---- 11

    private static void waveOf(GalleyStroke x, int benches, int first, int gap) {
        Checks.due("wave(0)", x.wave(0), benches);
        Checks.due("wave(1)", x.wave(1), first);
        Checks.due("wave(2)", x.wave(2), gap);
    }

    private static void wave() {
        Checks.edge("II", "WAVE: the most BENCHES one behind the other with one and the same GAP, not 0", () -> {
            waveOf(at(24, 0, 3, 6, 6, 5, 4, 3), 4, 3, -1);
            waveOf(at(24, 0, 2, 4, 6, 8, 10, 12, 14, 16, 18, 20, 22), 12, 0, 2);
            waveOf(at(24, 22, 1, 4, 8), 3, 0, 3);
            waveOf(at(24, 0, 12, 0, 12), 4, 0, 12);
            waveOf(at(24, 9, 9, 9, 9, 10, 11), 3, 3, 1);
            waveOf(at(24, 1, 2, 3, 3, 3, 3, 3), 3, 0, 1);
            waveOf(at(24, 1, 2, 1, 2, 1), 2, 0, 1);
            waveOf(at(24, 0, 0, 0, 0, 0, 0, 0, 0, 0, 0, 0, 1), 2, 10, 1);
        });
        Checks.edge("II", "WAVE: (the first one's to the one ahead not looked at)", () -> {
            // One man ends a wave and begins the next.
            waveOf(at(24, 0, 5, 6, 7), 3, 1, 1);
            waveOf(at(24, 0, 3, 6, 7, 8, 9), 4, 2, 1);
            waveOf(at(24, 4, 4, 5, 6), 3, 1, 1);
        });
        Checks.edge("II", "WAVE: of alike ones the first", () -> {
            waveOf(at(24, 0, 3, 6, 9, 9, 10, 11, 12), 4, 0, 3);
            waveOf(at(24, 0, 1, 0), 2, 0, 1);
            waveOf(at(24, 0, 1, 2, 1, 0), 3, 0, 1);
        });
        Checks.edge("Promise 11", "-2: there is none (two at least); NONE for others", () -> {
            GalleyStroke[] none = {new GalleyStroke(), at(24, 5), at(24, 5, 5), at(24, 5, 5, 5)};
            for (GalleyStroke x : none) {
                waveOf(x, -2, -2, -2);
                Checks.due("wave(3) of none", x.wave(3), -1);
                Checks.due("wave(-1) of none", x.wave(-1), -1);
            }
            GalleyStroke two = at(24, 5, 4);
            waveOf(two, 2, 0, -1);
            for (int wrong : new int[] {-1, 3, MIN, MAX}) {
                Checks.due("wave(" + wrong + ")", two.wave(wrong), -1);
            }
        });
    }

    // ---- 12, 13

    /** Two men come together with the first STROKE that has no FOG. */
    private static GalleyStroke foggy(String fog) {
        return Checks.fine("law d = drum; man a d 0; man b d 12; drum 5 0; " + fog);
    }

    /** Bench 1 CLASHES from the first STROKE that has no FOG on. */
    private static GalleyStroke parting(String fog) {
        return Checks.fine("law d = drum; law f = own; man a d 0; man b f 0; drum 12 0; " + fog);
    }

    private static void ahead() {
        Checks.edge("Promise 12", "behind how many STROKES (0 .. 100, FOG as told)", () -> {
            Checks.due("now", at(24, 1, 1, 1).soon(2), 0);
            Checks.due("behind 1", foggy("").soon(2), 1);
            Checks.due("behind 99", foggy("fog 0 97;").soon(2), 99);
            Checks.due("behind 100", foggy("fog 0 98;").soon(2), 100);
            Checks.due("behind 101", foggy("fog 0 99;").soon(2), -2);
            GalleyStroke later = foggy("fog 0 99;");
            later.row(1);
            Checks.due("a stroke later", later.soon(2), 100);
            Checks.due("never", at(24, 1, 5).soon(2), -2);
        });
        Checks.edge("Promise 12", "WAY is k or more; NONE: k below 1, above the men", () -> {
            GalleyStroke x = at(24, 1, 1, 9);
            long[] before = Checks.seen(x);
            Checks.due("soon(1)", x.soon(1), 0);
            Checks.due("soon(2)", x.soon(2), 0);
            Checks.due("soon(3)", x.soon(3), -2);
            for (int wrong : new int[] {0, 4, -1, MIN, MAX}) {
                Checks.due("soon(" + wrong + ")", x.soon(wrong), -1);
            }
            Checks.unchanged("soon()", x, before);
            Checks.due("no men", new GalleyStroke().soon(1), -1);
            Checks.due("no men", new GalleyStroke().soon(0), -1);
            GalleyStroke full = at(24, 7, 7, 7, 7, 7, 7, 7, 7, 7, 7, 7, 7);
            Checks.due("soon(12)", full.soon(12), 0);
            Checks.due("soon(13)", full.soon(13), -1);
        });
        Checks.edge("Promise 13", "behind n STROKES (1 .. 100, FOG as told); NONE: no such n", () -> {
            Checks.due("what is now is not looked at", foggy("").rubs(100), -2);
            Checks.due("rubs(1)", parting("").rubs(1), 1);
            GalleyStroke last = parting("fog 0 98;");
            long[] before = Checks.seen(last);
            Checks.due("rubs(99)", last.rubs(99), -2);
            Checks.due("rubs(100)", last.rubs(100), 1);
            for (int wrong : new int[] {0, 101, -1, MIN, MAX}) {
                Checks.due("rubs(" + wrong + ")", last.rubs(wrong), -1);
            }
            Checks.unchanged("rubs()", last, before);
            last.row(1);
            Checks.due("a stroke later", last.rubs(99), 1);
        });
        Checks.edge("Promise 13", "most often, of alike ones the first; -2: none does", SightEdges::mostOften);
    }

    private static void mostOften() {
        Checks.due("alike", at(24, 0, 12, 0, 12).rubs(5), 1);
        Checks.due("but one", at(24, 0, 1, 13, 13).rubs(5), 2);
        Checks.due("the last", at(24, 0, 0, 0, 0, 0, 0, 0, 0, 0, 0, 0, 12).rubs(1), 11);
        Checks.due("none", at(24, 0, 1, 2).rubs(100), -2);
        Checks.due("one man", at(24, 0).rubs(1), -2);
        Checks.due("no men", new GalleyStroke().rubs(1), -2);
        Checks.due("no men, no such n", new GalleyStroke().rubs(0), -1);
        GalleyStroke x = Checks.fine("law d = drum; law copy = ahead; law fix = own; man a d 0; man b copy 0;"
            + "man c fix 0; drum 12 0;");
        Checks.due("1 once, 2 once", x.rubs(2), 1);
        Checks.due("1 once, 2 twice", x.rubs(3), 2);
    }

    // ---- 14, 15

    private static void stillAndRound() {
        Checks.edge("Promise 14", "1 if they stand STILL (without FOG), else 0", () -> {
            Checks.due("no men", new GalleyStroke().still(), 1);
            Checks.due("all stand", at(24, 0, 5, 9).still(), 1);
            String laws = "law f = own; law k = own + 1; law turn = own + 24; man a f 1; man b f 2;";
            Checks.due("the last one moves", Checks.fine(laws + "man c k 3;").still(), 0);
            Checks.due("a whole turn", Checks.fine(laws + "man c turn 3;").still(), 1);
            GalleyStroke first = Checks.fine("law k = own + 1; law f = own; man a k 0; man b f 0;");
            Checks.due("the first one moves", first.still(), 0);
            GalleyStroke fog = foggy("fog 0 99;");
            Checks.due("in FOG", fog.still(), 0);
            Checks.due("nothing happens", fog.count(3), 0);
            Checks.due("no drum", Checks.fine("law d = drum; man a d 3;").still(), 1);
        });
        Checks.edge("II", "ROUND: the least p (and then the least s), without FOG, from now on", () -> {
            roundOf(new GalleyStroke(), 1, 0);
            roundOf(at(24, 3), 1, 0);
            roundOf(Checks.fine("law k = own + 12; man a k 0;"), 2, 0);
            roundOf(Checks.fine("law k = own + 1; man a k 0;"), 24, 0);
            GalleyStroke chain = Checks.fine("law f = own; law copy = ahead; man a f 5; man b copy 0; man c copy 0;"
                + "fog 0 9;");
            roundOf(chain, 1, 2);
            chain.row(1);
            roundOf(chain, 1, 1);
            // A round of two and one of three, and one behind them who must come in first.
            roundOf(Checks.fine("parts 6; law h = own + 3; law t = own + 2; law copy = ahead; man a h 0; man b t 1;"
                + "man c copy 0;"), 6, 1);
            roundOf(foggy("fog 0 99;"), 1, 1);
        });
        Checks.edge("II", "ROUND: told if s + p is 400 at most", SightEdges::roundBound);
        Checks.edge("Promise 15", "-2: not so soon; NONE for others", () -> {
            GalleyStroke late = Checks.fine(METER + "man a k 1; man b z 0; man c copy 10;");
            GalleyStroke soon = at(24, 3);
            for (int wrong : new int[] {-1, 2, MIN, MAX}) {
                Checks.due("round(" + wrong + ")", late.round(wrong), -1);
                Checks.due("round(" + wrong + ")", soon.round(wrong), -1);
            }
            roundOf(late, -2, -2);
            Checks.due("nothing happens", late.count(3), 0);
            Checks.times(late, 1, 0, 10);
        });
    }

    private static void roundOf(GalleyStroke x, int p, int s) {
        Checks.due("round(0)", x.round(0), p);
        Checks.due("round(1)", x.round(1), s);
    }

    private static void roundBound() {
        roundOf(Checks.fine(METER + "man a k 1; man b z 0;"), 400, 0);
        roundOf(Checks.fine(METER + "man a k 1; man b z 0; man c copy 10;"), -2, -2);
        // The front man comes by 0 behind 19 - t more STROKES; the one behind him stops at 19.
        roundOf(Checks.fine(METER + "man a k 19; man b stop 0;"), 20, 362);
        roundOf(Checks.fine(METER + "man a k 1; man b stop 0;"), 20, 380);
        roundOf(Checks.fine(METER + "man a k 1; man b stop 0; man c copy 0;"), -2, -2);
        GalleyStroke later = Checks.fine(METER + "man a k 1; man b stop 0; man c copy 0;");
        for (int strokes = 1; strokes <= 3; strokes++) {
            later.row(1);
            roundOf(later, 20, 381 - strokes);
        }
        // 21 times 21.
        roundOf(Checks.fine("parts 21;" + METER.substring(9) + "man a k 1; man b z 0;"), -2, -2);
    }
}
