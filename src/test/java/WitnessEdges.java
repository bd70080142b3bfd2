/** The edges of part IV: what is TOLD and KNOWN, SUSPECTS, CHECK. */
final class WitnessEdges {
    private static final int MIN = Integer.MIN_VALUE;
    private static final int MAX = Integer.MAX_VALUE;
    // TIMES 0 0 0, then 6 0 0, 6 6 0, 6 6 6: bench 1 CLASHES at stroke 1, bench 2 at stroke 2.
    private static final String CHAIN = "parts 12; law copy = ahead; law d = drum; man a d 0; man b copy 0;"
        + "man c copy 0; drum 6 0;";
    // Bench 1 CLASHES at stroke 99 for the first time, if the front man is not BROKEN.
    private static final String LATE = "law d = drum; law f = own; man a d 0; man b f 0; drum 12 0; fog 0 97;";

    private WitnessEdges() {
    }

    static void all() {
        told();
        suspects();
        check();
    }

    // ---- 26, 27

    private static void told() {
        Checks.edge("IV", "TOLD: at a stroke (0 .. 99; behind the STROKES of that number)", () -> {
            GalleyStroke first = Checks.fine(Texts.standing(24, 0, 12));
            Checks.due("tell(0, 1, true)", first.tell(0, 1, true), 0);
            Checks.due("suspects(0, 1)", first.suspects(0, 1), 1);
            GalleyStroke last = Checks.fine(LATE);
            Checks.due("tell(98, 1, false)", last.tell(98, 1, false), 0);
            Checks.due("tell(99, 1, true)", last.tell(99, 1, true), 1);
            Checks.due("tell(98, 1, true)", last.tell(98, 1, true), 2);
            Checks.due("suspects(0, 2)", last.suspects(0, 2), 1);
            Checks.due("suspects(1, 2)", last.suspects(1, 2), 1);
            Checks.due("suspect(1, 2, 0)", last.suspect(1, 2, 0), 2);
            Checks.due("suspects(0, 3)", last.suspects(0, 3), 0);
        });
        Checks.edge("Promise 26", "its number; NONE, and nothing happens: no such ones", () -> {
            GalleyStroke x = Checks.fine(CHAIN);
            x.tell(1, 1, true);
            long[] before = Checks.seen(x);
            int[][] wrong = {{-1, 1}, {100, 1}, {MIN, 1}, {MAX, 1}, {0, 0}, {0, -1}, {0, 3}, {0, 12}, {0, MIN},
                {0, MAX}, {0, 32}};
            for (int[] w : wrong) {
                Checks.due("tell(" + w[0] + ", " + w[1] + ")", x.tell(w[0], w[1], true), -1);
                Checks.due("tell(" + w[0] + ", " + w[1] + ")", x.tell(w[0], w[1], false), -1);
            }
            Checks.unchanged("tell()", x, before);
            Checks.due("bench 1", x.tell(0, 1, false), 1);
            Checks.due("the last bench", x.tell(99, 2, false), 2);
            Checks.due("no men", new GalleyStroke().tell(0, 1, true), -1);
            Checks.due("one man", Checks.fine(Texts.standing(24, 1)).tell(0, 1, true), -1);
            GalleyStroke full = Checks.fine(Texts.standing(24, 0, 0, 0, 0, 0, 0, 0, 0, 0, 0, 0, 12));
            Checks.due("bench 11", full.tell(0, 11, true), 0);
            Checks.due("bench 12", full.tell(0, 12, true), -1);
            Checks.due("suspects(0, 1)", full.suspects(0, 1), 1);
        });
        Checks.edge("Promise 26", "20 are there", () -> {
            GalleyStroke x = Checks.fine(CHAIN);
            for (int i = 0; i < 19; i++) {
                Checks.due("tell " + i, x.tell(0, 1, false), i);
            }
            Checks.due("the 20th", x.tell(1, 1, true), 19);
            long[] before = Checks.seen(x);
            Checks.due("the 21st", x.tell(0, 1, true), -1);
            Checks.due("the 22nd", x.tell(1, 1, false), -1);
            Checks.unchanged("tell()", x, before);
            Checks.due("suspects(1, 19)", x.suspects(1, 19), 3);
            Checks.due("suspects(1, 20)", x.suspects(1, 20), 2);
            Checks.due("suspects(1, 21)", x.suspects(1, 21), -1);
        });
        Checks.edge("Promise 27", "all that was TOLD is forgotten: how many there were", () -> {
            GalleyStroke x = Checks.fine(CHAIN);
            Checks.due("forget() of none", x.forget(), 0);
            for (int i = 0; i < 20; i++) {
                x.tell(0, 1, true);
            }
            Checks.due("forget()", x.forget(), 20);
            Checks.due("TOLD", x.count(10), 0);
            Checks.due("suspects(0, 0)", x.suspects(0, 0), 1);
            Checks.due("suspects(0, 1)", x.suspects(0, 1), -1);
            Checks.due("from 0 on again", x.tell(0, 1, false), 0);
            Checks.due("suspects(0, 1)", x.suspects(0, 1), 1);
            Checks.due("forget()", x.forget(), 1);
            Checks.due("forget() of none", x.forget(), 0);
        });
    }

    // ---- 28, 29

    private static void suspects() {
        Checks.edge("IV", "KNOWN by k: the first k", () -> {
            GalleyStroke x = Checks.fine(CHAIN);
            x.tell(1, 1, true);
            x.tell(2, 1, true);
            x.tell(2, 2, true);
            int[] sets = {3, 2, 1, 0};
            for (int k = 0; k <= 3; k++) {
                Checks.due("suspects(1, " + k + ")", x.suspects(1, k), sets[k]);
            }
        });
        Checks.edge("IV", "sets of n BROKEN men (0 .. 2)", () -> {
            int[][] want = {{1, 0, 0}, {1, 1, 0}, {1, 2, 1}, {1, 3, 3}, {1, 12, 66}};
            int[] men = {0, 1, 2, 3, 12};
            for (int i = 0; i < men.length; i++) {
                GalleyStroke x = Checks.fine(Texts.standing(24, new int[men[i]]));
                for (int n = 0; n <= 2; n++) {
                    Checks.due(men[i] + " men, suspects(" + n + ", 0)", x.suspects(n, 0), want[i][n]);
                }
            }
        });
        Checks.edge("IV", "BROKEN men row by own from stroke 0 on, as the text was told", WitnessEdges::asTold);
        Checks.edge("Promise 28", "NONE: no such ones", () -> {
            GalleyStroke x = Checks.fine(CHAIN);
            x.tell(1, 1, true);
            int[][] wrong = {{-1, 0}, {3, 0}, {MIN, 0}, {MAX, 0}, {0, -1}, {0, 2}, {0, MIN}, {0, MAX}, {1, 2}, {2, 2},
                {3, 1}};
            for (int[] w : wrong) {
                Checks.due("suspects(" + w[0] + ", " + w[1] + ")", x.suspects(w[0], w[1]), -1);
                Checks.due("suspect(" + w[0] + ", " + w[1] + ", 0)", x.suspect(w[0], w[1], 0), -1);
            }
            Checks.due("suspects(2, 1)", x.suspects(2, 1), 1);
            Checks.due("suspects(0, 0) of no men", new GalleyStroke().suspects(0, 0), 1);
            Checks.due("suspects(0, 1) of no men", new GalleyStroke().suspects(0, 1), -1);
        });
        Checks.edge("Promise 29", "the i-th of them (bits), the least first; NONE: not so many", WitnessEdges::iTh);
    }

    private static void asTold() {
        GalleyStroke x = Checks.fine(CHAIN + "fog 0 1;");
        x.tell(2, 1, false);
        x.tell(3, 1, true);
        x.tell(4, 2, true);
        x.row(7);
        x.change(0, 2);
        x.teach(1, 1);
        x.set(1, 9);
        x.beat(1);
        x.hold(0);
        Checks.due("suspects(0, 3)", x.suspects(0, 3), 1);
        Checks.due("suspects(1, 3)", x.suspects(1, 3), 1);
        Checks.due("suspect(1, 3, 0)", x.suspect(1, 3, 0), 4);
        Checks.due("suspects(2, 3)", x.suspects(2, 3), 0);
        Checks.due("check(1, 0, 4)", x.check(1, 0, 4), 1);
        // A drum that was beaten by hand is none of the text's.
        GalleyStroke bare = Checks.fine("law d = drum; law f = own; man a d 0; man b f 0;");
        bare.beat(12);
        bare.tell(9, 1, false);
        Checks.due("no drum told", bare.suspects(0, 1), 1);
    }

    private static void iTh() {
        GalleyStroke full = Checks.fine(Texts.standing(24, new int[12]));
        Checks.due("suspect(0, 0, 0)", full.suspect(0, 0, 0), 0);
        Checks.due("suspect(0, 0, 1)", full.suspect(0, 0, 1), -1);
        for (int i = 0; i < 12; i++) {
            Checks.due("suspect(1, 0, " + i + ")", full.suspect(1, 0, i), 1 << i);
        }
        Checks.due("suspect(1, 0, 12)", full.suspect(1, 0, 12), -1);
        int i = 0;
        for (int high = 1; high < 12; high++) {
            for (int low = 0; low < high; low++) {
                Checks.due("suspect(2, 0, " + i + ")", full.suspect(2, 0, i), 1 << high | 1 << low);
                i++;
            }
        }
        Checks.due("suspect(2, 0, 66)", full.suspect(2, 0, 66), -1);
        for (int wrong : new int[] {-1, MIN, MAX}) {
            Checks.due("suspect(2, 0, " + wrong + ")", full.suspect(2, 0, wrong), -1);
            Checks.due("suspect(0, 0, " + wrong + ")", full.suspect(0, 0, wrong), -1);
        }
        Checks.due("of no men", new GalleyStroke().suspect(0, 0, 0), 0);
        Checks.due("of no men", new GalleyStroke().suspect(1, 0, 0), -1);
        GalleyStroke x = Checks.fine(CHAIN);
        x.tell(1, 1, true);
        Checks.due("suspect(1, 1, 0)", x.suspect(1, 1, 0), 2);
        Checks.due("suspect(1, 1, 1)", x.suspect(1, 1, 1), 4);
        Checks.due("suspect(1, 1, 2)", x.suspect(1, 1, 2), -1);
    }

    // ---- 30

    private static void check() {
        Checks.edge("IV", "CHECK: the greater part of SUSPECTS is least; of alike ones the first",
            WitnessEdges::greaterPart);
        Checks.edge("Promise 30", "CHECK at a stroke (0 .. 99); NONE: no such ones", () -> {
            GalleyStroke x = Checks.fine(CHAIN);
            x.tell(2, 1, false);
            long[] before = Checks.seen(x);
            Checks.due("check(1, 1, 0)", x.check(1, 1, 0), 1);
            Checks.due("check(1, 1, 99)", x.check(1, 1, 99), 2);
            int[][] wrong = {{1, 1, -1}, {1, 1, 100}, {1, 1, MIN}, {1, 1, MAX}, {-1, 1, 0}, {3, 1, 0}, {MIN, 1, 0},
                {MAX, 1, 0}, {1, -1, 0}, {1, 2, 0}, {1, MIN, 0}, {1, MAX, 0}};
            for (int[] w : wrong) {
                Checks.due("check(" + w[0] + ", " + w[1] + ", " + w[2] + ")", x.check(w[0], w[1], w[2]), -1);
            }
            Checks.unchanged("check()", x, before);
            // Till stroke 98 all benches are alike.
            GalleyStroke late = Checks.fine("law d = drum; law f = own; man a f 0; man b f 0; man c d 0; drum 12 0;"
                + "fog 0 97;");
            Checks.due("check(1, 0, 98)", late.check(1, 0, 98), 1);
            Checks.due("check(1, 0, 99)", late.check(1, 0, 99), 2);
        });
        Checks.edge("Promise 30", "-2: no SUSPECTS, less than two men", () -> {
            GalleyStroke x = Checks.fine(CHAIN);
            x.tell(0, 1, true);
            for (int n = 0; n <= 2; n++) {
                Checks.due("no SUSPECTS", x.check(n, 1, 0), -2);
                Checks.due("SUSPECTS", x.check(n, 0, 0), 1);
            }
            Checks.due("no men", new GalleyStroke().check(0, 0, 0), -2);
            GalleyStroke one = Checks.fine(Texts.standing(24, 1));
            Checks.due("one man", one.check(0, 0, 0), -2);
            Checks.due("one man", one.check(1, 0, 99), -2);
            Checks.due("one man, no such stroke", one.check(0, 0, 100), -1);
            Checks.due("one man, no such k", one.check(0, 1, 0), -1);
            GalleyStroke two = Checks.fine(Texts.standing(24, 1, 2));
            Checks.due("two men", two.check(2, 0, 0), 1);
            Checks.due("two men", two.check(0, 0, 99), 1);
        });
    }

    private static void greaterPart() {
        GalleyStroke x = Checks.fine(CHAIN);
        // Stroke 1: bench 1 CLASHES but for a BROKEN; bench 2 never: 2 of 3 and 3 of 3.
        Checks.due("check(1, 0, 1)", x.check(1, 0, 1), 1);
        // Stroke 2: bench 1 with b BROKEN, bench 2 with c: 2 of 3 each.
        Checks.due("check(1, 0, 2)", x.check(1, 0, 2), 1);
        x.tell(2, 1, false);
        // Without b: bench 1 never, bench 2 one of two.
        Checks.due("check(1, 1, 2)", x.check(1, 1, 2), 2);
        Checks.due("check(1, 1, 3)", x.check(1, 1, 3), 2);
        Checks.due("check(1, 1, 1)", x.check(1, 1, 1), 1);
        // Stroke 1: bench 1 with a BROKEN alone, bench 2 but for c BROKEN: 2 of 3 each, though not in the same way.
        GalleyStroke alike = Checks.fine("law z = 0; law f = own; law go = 12; man a z 12; man b f 0; man c go 0;");
        Checks.due("check(1, 0, 1)", alike.check(1, 0, 1), 1);
        Checks.due("check(1, 0, 0)", alike.check(1, 0, 0), 1);
        alike.change(0, 2);
        Checks.due("as the text was told", alike.check(1, 0, 1), 1);
        // None CLASHES anywhere: all alike.
        GalleyStroke none = Checks.fine(Texts.standing(24, new int[12]));
        Checks.due("alike", none.check(2, 0, 50), 1);
        // Only the last man moves, so only by the last bench are they told apart.
        GalleyStroke last = Checks.fine("law fix = own; law go = 12;" + Texts.men("fix", new int[11])
            + "man z go 0;");
        Checks.due("the last bench", last.check(1, 0, 1), 11);
        Checks.due("at stroke 0", last.check(1, 0, 0), 1);
    }
}
