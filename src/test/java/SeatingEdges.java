/** The edges of part III: SEATING, CHANGE, EVERY, RAM, ODDS. */
final class SeatingEdges {
    private static final int MIN = Integer.MIN_VALUE;
    private static final int MAX = Integer.MAX_VALUE;
    // He who is not on the BENCH of his number goes to and fro for ever; the numbers are the men's TIMES.
    private static final String FORWARD = "law s = if own == bench then own else own + 12;";
    private static final String BACKWARD = "parts 12; law s = if own + bench == 5 then own else own + 6;";

    private SeatingEdges() {
    }

    static void all() {
        seating();
        better();
        every();
        ram();
        odds();
    }

    private static void seats(GalleyStroke x, int what, int n, int... want) {
        for (int b = 0; b < want.length; b++) {
            Checks.due("seat(" + what + ", " + n + ", " + b + ")", x.seat(what, n, b), want[b]);
        }
    }

    /** All who call for the best order or exchange take the same what and n. */
    private static void wrongAims(GalleyStroke x) {
        int[][] wrong = {{-1, 1}, {3, 1}, {0, 0}, {0, 31}, {1, 0}, {1, 31}, {2, 0}, {2, 31}, {2, -1}, {MIN, 1},
            {MAX, 1}, {0, MIN}, {0, MAX}};
        for (int[] w : wrong) {
            String with = "(" + w[0] + ", " + w[1] + ")";
            Checks.due("seating" + with, x.seating(w[0], w[1]), -1);
            Checks.due("seat" + with, x.seat(w[0], w[1], 0), -1);
            Checks.due("better" + with, x.better(w[0], w[1]), -1);
        }
    }

    // ---- 20, 21

    private static void seating() {
        Checks.edge("Promise 20", "what 0 .. 2, in n STROKES (1 .. 30); NONE: no such ones", () -> {
            GalleyStroke x = Checks.fine(Texts.standing(24, 0, 12));
            for (int what = 0; what < 3; what++) {
                Checks.due("in 1", x.seating(what, 1), what == 0 ? 0 : 1);
                Checks.due("in 30", x.seating(what, 30), what == 0 ? 0 : 30);
            }
            wrongAims(x);
        });
        Checks.edge("Promise 20", "-2: more than 6 men; no men", SeatingEdges::howManyMen);
        Checks.edge("III", "the fewest STROKES till all stand STILL (n + 1 if they do not within n)",
            SeatingEdges::soonest);
        Checks.edge("III", "the fewest CLASHES, the most WAY in all of these n", SeatingEdges::inAll);
        Checks.edge("III", "of all orders, the first and the last among them", SeatingEdges::allOrders);
        Checks.edge("III", "of alike ones the first by the BENCHES on which they sit now", SeatingEdges::alikeOrders);
        Checks.edge("III", "without FOG; each keeps his LAW and his TIME now", SeatingEdges::asNow);
        Checks.edge("Promise 21", "the man (by what BENCH he sits on now); no such BENCH", () -> {
            GalleyStroke x = Checks.fine(BACKWARD + Texts.men("s", 0, 1, 2, 3, 4, 5));
            seats(x, 0, 1, 5, 4, 3, 2, 1, 0);
            for (int wrong : new int[] {-1, 6, 7, 12, MIN, MAX}) {
                Checks.due("seat(0, 1, " + wrong + ")", x.seat(0, 1, wrong), -1);
            }
            x.change(0, 5);
            seats(x, 0, 1, 0, 4, 3, 2, 1, 5);
            GalleyStroke one = Checks.fine(Texts.standing(24, 3));
            Checks.due("one man", one.seat(0, 1, 0), 0);
            Checks.due("one man", one.seat(0, 1, 1), -1);
        });
    }

    private static void howManyMen() {
        GalleyStroke none = new GalleyStroke();
        GalleyStroke one = Checks.fine(Texts.standing(24, 3));
        GalleyStroke six = Checks.fine(Texts.standing(24, 1, 1, 1, 1, 1, 1));
        GalleyStroke seven = Checks.fine(Texts.standing(24, 1, 1, 1, 1, 1, 1, 1));
        GalleyStroke full = Checks.fine(Texts.standing(24, 1, 1, 1, 1, 1, 1, 1, 1, 1, 1, 1, 1));
        for (int what = 0; what < 3; what++) {
            Checks.due("no men", none.seating(what, 2), -1);
            Checks.due("no men", none.seat(what, 2, 0), -1);
            Checks.due("one man", one.seating(what, 2), what == 2 ? 2 : 0);
            Checks.due("six men", six.seating(what, 2), what == 2 ? 12 : 0);
            Checks.due("six men", six.seat(what, 2, 5), 5);
            Checks.due("seven men", seven.seating(what, 2), -2);
            Checks.due("seven men", seven.seat(what, 2, 0), -2);
            Checks.due("seven men", seven.seat(what, 2, 6), -2);
            Checks.due("seven men, no such BENCH", seven.seat(what, 2, 7), -1);
            Checks.due("twelve men", full.seating(what, 30), -2);
        }
        wrongAims(seven);
        wrongAims(none);
    }

    private static void soonest() {
        Checks.due("STILL now", Checks.fine(Texts.standing(24, 3, 9)).seating(0, 1), 0);
        GalleyStroke five = Checks.fine("law s = if own < 5 then own + 1 else own;" + Texts.men("s", 0, 3));
        int[] reached = {2, 3, 4, 5, 5, 5, 5};
        for (int n = 1; n <= reached.length; n++) {
            Checks.due("seating(0, " + n + ")", five.seating(0, n), reached[n - 1]);
        }
        Checks.due("seating(0, 30)", five.seating(0, 30), 5);
        // The second man begins when the first one has come to 20: STILL behind 20 and as many as he needs.
        String wait = "law s = if bench == 0 and own < 20 then own + 1"
            + " else if bench == 1 and ahead == 20 and own < # then own + 1 else own;" + Texts.men("s", 0, 0);
        Checks.due("behind 29", Checks.fine(wait.replace("#", "9")).seating(0, 30), 29);
        Checks.due("behind 30", Checks.fine(wait.replace("#", "10")).seating(0, 30), 30);
        Checks.due("behind 31", Checks.fine(wait.replace("#", "11")).seating(0, 30), 31);
        Checks.due("behind 32", Checks.fine(wait.replace("#", "12")).seating(0, 30), 31);
        GalleyStroke never = Checks.fine("law k = own + 1;" + Texts.men("k", 0, 1));
        Checks.due("never in 1", never.seating(0, 1), 2);
        Checks.due("never in 30", never.seating(0, 30), 31);
        seats(never, 0, 30, 0, 1);
    }

    private static void inAll() {
        // On bench 1 the TIMES are 0 1 2 12 12 ..: what is now is not looked at, the n-th STROKE is.
        GalleyStroke x = Checks.fine("law s = if bench == 1 and own < 2 then own + 1 else if bench == 1 then 12 else 0;"
            + Texts.men("s", 0, 0));
        int[] clashes = {0, 0, 1, 2, 3};
        int[] way = {2, 4, 5, 6, 7};
        for (int n = 1; n <= 5; n++) {
            Checks.due("seating(1, " + n + ")", x.seating(1, n), clashes[n - 1]);
            Checks.due("seating(2, " + n + ")", x.seating(2, n), way[n - 1]);
        }
        Checks.due("seating(1, 30)", x.seating(1, 30), 28);
        Checks.due("seating(2, 30)", x.seating(2, 30), 4 + 28);
        // A CLASH of now that is over with the first STROKE.
        GalleyStroke over = Checks.fine("law z = 0;" + Texts.men("z", 0, 12));
        Checks.due("seating(1, 1)", over.seating(1, 1), 0);
        Checks.due("seating(2, 1)", over.seating(2, 1), 2);
        // Each CLASH of a STROKE counts.
        Checks.due("two CLASHES a STROKE",
            Checks.fine("law s = bench * 8;" + Texts.men("s", 0, 0, 0)).seating(1, 3), 6);
    }

    private static void allOrders() {
        GalleyStroke last = Checks.fine(BACKWARD + Texts.men("s", 0, 1, 2, 3, 4, 5));
        Checks.due("the last one", last.seating(0, 1), 0);
        seats(last, 0, 1, 5, 4, 3, 2, 1, 0);
        GalleyStroke first = Checks.fine(BACKWARD + Texts.men("s", 5, 4, 3, 2, 1, 0));
        Checks.due("the first one", first.seating(0, 1), 0);
        seats(first, 0, 1, 0, 1, 2, 3, 4, 5);
        GalleyStroke some = Checks.fine(FORWARD + Texts.men("s", 3, 0, 5, 1, 4, 2));
        Checks.due("one between", some.seating(0, 30), 0);
        seats(some, 0, 30, 1, 3, 5, 0, 4, 2);
        GalleyStroke two = Checks.fine(FORWARD + Texts.men("s", 1, 0));
        Checks.due("of two", two.seating(0, 1), 0);
        seats(two, 0, 1, 1, 0);
    }

    private static void alikeOrders() {
        GalleyStroke x = Checks.fine(Texts.standing(24, 0, 12, 0, 12, 0, 12));
        Checks.due("one CLASH", x.seating(1, 1), 1);
        seats(x, 1, 1, 0, 2, 4, 1, 3, 5);
        Checks.due("WAY of all orders is alike", x.seating(2, 1), 3);
        seats(x, 2, 1, 0, 1, 2, 3, 4, 5);
        x.change(0, 1);
        seats(x, 1, 1, 0, 3, 5, 1, 2, 4);
        GalleyStroke never = Checks.fine("law k = own + 1;" + Texts.men("k", 3, 2, 1));
        seats(never, 0, 5, 0, 1, 2);
    }

    private static void asNow() {
        GalleyStroke x = Checks.fine("law d = drum; law f = own; man a d 0; man b f 6; drum 12 0; fog 0 999;");
        long[] before = Checks.seen(x);
        Checks.due("STILL without FOG", x.seating(0, 5), 1);
        Checks.due("CLASHES without FOG", x.seating(1, 5), 0);
        Checks.unchanged("seating()", x, before);
        x.beat(14);
        Checks.due("CLASHES by the drum now", x.seating(1, 5), 5);
        x.set(1, 14);
        Checks.due("CLASHES by the TIME now", x.seating(1, 5), 0);
        x.teach(0, 1);
        Checks.due("STILL by the LAW now", x.seating(0, 5), 0);
    }

    // ---- 22

    private static void better() {
        Checks.edge("III", "CHANGE: for any number of men", () -> {
            int[] begins = {0, 1, 2, 3, 4, 5, 6, 7, 8, 9, 10, 11};
            int[][] pairs = {{0, 1}, {0, 11}, {10, 11}, {4, 7}};
            for (int[] pair : pairs) {
                int[] men = begins.clone();
                men[pair[0]] = pair[1];
                men[pair[1]] = pair[0];
                Checks.due("better(0, 1)", Checks.fine(FORWARD + Texts.men("s", men)).better(0, 1),
                    100 * pair[0] + pair[1]);
            }
            Checks.due("two men", Checks.fine(FORWARD + Texts.men("s", 1, 0)).better(0, 30), 1);
            Checks.due("seven men", Checks.fine(FORWARD + Texts.men("s", 0, 1, 2, 3, 4, 6, 5)).better(0, 1), 506);
        });
        Checks.edge("III", "the first by the lesser BENCH, then the other one (the order now ahead of all)", () -> {
            Checks.due("alike", Checks.fine(Texts.standing(24, 0, 12, 0, 12, 0, 12)).better(1, 1), 104);
            Checks.due("alike", Checks.fine(Texts.standing(24, 0, 12, 0)).better(1, 3), 1);
            Checks.due("alike", Checks.fine(Texts.standing(24, 0, 12, 12, 0)).better(1, 3), 2);
            Checks.due("the order now", Checks.fine(Texts.standing(24, 0, 0, 12, 12)).better(1, 1), -2);
        });
        Checks.edge("Promise 22", "-2: the order now is best; NONE: no such ones, no men", () -> {
            GalleyStroke alike = Checks.fine(Texts.standing(24, 5, 5, 5));
            GalleyStroke one = Checks.fine(Texts.standing(24, 5));
            for (int what = 0; what < 3; what++) {
                Checks.due("all alike", alike.better(what, 1), -2);
                Checks.due("one man", one.better(what, 30), -2);
                Checks.due("no men", new GalleyStroke().better(what, 1), -1);
            }
            wrongAims(alike);
            Checks.due("three must move", Checks.fine(FORWARD + Texts.men("s", 1, 2, 0)).better(0, 9), -2);
            GalleyStroke x = Checks.fine(FORWARD + Texts.men("s", 1, 0) + "fog 0 99;");
            long[] before = Checks.seen(x);
            Checks.due("better(0, 1)", x.better(0, 1), 1);
            Checks.unchanged("better()", x, before);
        });
    }

    // ---- 23

    private static void everyOf(GalleyStroke x, int law, int m, int from, int most, int of) {
        int[] want = {from, most, of};
        for (int what = 0; what < 3; what++) {
            Checks.due("every(" + law + ", " + m + ", " + what + ")", x.every(law, m, what), want[what]);
        }
    }

    private static void every() {
        Checks.edge("III", "EVERY: told if there are no more than 20736", () -> {
            everyOf(Checks.fine("parts 12; law a = own;"), 0, 4, 20736, 0, 20736);
            everyOf(Checks.fine("parts 13; law a = own;"), 0, 4, -2, -2, -2);
            everyOf(Checks.fine("parts 13; law a = own;"), 0, 3, 2197, 0, 2197);
            everyOf(Checks.fine("parts 24; law a = own;"), 0, 3, 13824, 0, 13824);
            everyOf(Checks.fine("parts 24; law a = own;"), 0, 4, -2, -2, -2);
            everyOf(Checks.fine("parts 3; law a = own;"), 0, 1, 3, 0, 3);
            everyOf(Checks.fine("parts 3; law a = own;"), 0, 4, 81, 0, 81);
        });
        Checks.edge("III", "from how many, and the most STROKES till then (0 if none does)",
            SeatingEdges::everyNumbers);
        Checks.edge("III", "EVERY: m men who all row by it, each of whom sees the ones in front", () -> {
            GalleyStroke x = Checks.fine("parts 4; law t = two; law s = if own == two then own else own + 1;"
                + "law a = if own == ahead then own else own + 1; law b = if own == bench then own else own + 1;"
                + "law u = if two == ahead then own else own + 1;");
            int[] two = {0, 1, 1, 2};
            // He who has 3 to go to one who has 3 to go keeps his distance till that one stands.
            int[] byTwo = {0, 3, 3, 6};
            int[] byAhead = {0, 3, 6, 9};
            for (int m = 1; m <= 4; m++) {
                int of = 1 << 2 * m;
                everyOf(x, 0, m, of, two[m - 1], of);
                everyOf(x, 1, m, of, byTwo[m - 1], of);
                everyOf(x, 2, m, of, byAhead[m - 1], of);
                everyOf(x, 3, m, of, 3, of);
            }
            // Benches 0 and 1 stand; bench 2 stands if they are alike, bench 3 if 1 and 2 are.
            everyOf(x, 4, 2, 16, 0, 16);
            everyOf(x, 4, 3, 16, 0, 64);
            everyOf(x, 4, 4, 16, 0, 256);
        });
        Checks.edge("III", "EVERY: with the drum as it is now and the song, without FOG", () -> {
            GalleyStroke x = Checks.fine("parts 12; law d = if own == drum then own else own + 1; law s = song;"
                + "drum 4 3; song 5; fog 0 99;");
            everyOf(x, 0, 4, 20736, 11, 20736);
            everyOf(x, 1, 2, 144, 1, 144);
            GalleyStroke only = Checks.fine("parts 3; law d = if drum == 1 then own else own + 1; drum 0 1;");
            everyOf(only, 0, 1, 0, 0, 3);
            only.beat(1);
            everyOf(only, 0, 1, 3, 0, 3);
            everyOf(only, 0, 2, 0, 0, 9);
        });
        Checks.edge("Promise 23", "-2: more than 20736; NONE: no such ones", () -> {
            GalleyStroke x = Checks.fine(Texts.many("law # = own;", 6) + "man x a 3; man y a 4;");
            long[] before = Checks.seen(x);
            Checks.due("the last LAW", x.every(5, 1, 0), 24);
            int[][] wrong = {{-1, 1, 0}, {6, 1, 0}, {MAX, 1, 0}, {MIN, 1, 0}, {0, 0, 0}, {0, 5, 0}, {0, -1, 0},
                {0, MAX, 0}, {0, MIN, 0}, {0, 1, -1}, {0, 1, 3}, {0, 1, MAX}, {0, 1, MIN}, {0, 4, 3}, {6, 4, 0}};
            for (int[] w : wrong) {
                Checks.due("every(" + w[0] + ", " + w[1] + ", " + w[2] + ")", x.every(w[0], w[1], w[2]), -1);
            }
            Checks.due("every(0, 4, 0)", x.every(0, 4, 0), -2);
            Checks.unchanged("every()", x, before);
            Checks.due("no LAW", new GalleyStroke().every(0, 1, 0), -1);
            Checks.due("no men", Checks.fine("law a = own;").every(0, 1, 0), 24);
        });
    }

    private static void everyNumbers() {
        GalleyStroke x = Checks.fine("parts 4; law copy = ahead; law k = own + 1;"
            + "law h = if own < 2 then 0 else if own == 2 then 3 else 2; law up = if own < 3 then own + 1 else own;"
            + "law fix = own; law l = if bench < 3 then 0 else own + 1;");
        everyOf(x, 0, 1, 4, 0, 4);
        everyOf(x, 0, 2, 16, 1, 16);
        everyOf(x, 0, 3, 64, 2, 64);
        everyOf(x, 0, 4, 256, 3, 256);
        for (int m = 1; m <= 4; m++) {
            everyOf(x, 1, m, 0, 0, 1 << 2 * m);
            // Half of each man's TIMES settle.
            everyOf(x, 2, m, 1 << m, 1, 1 << 2 * m);
            everyOf(x, 3, m, 1 << 2 * m, 3, 1 << 2 * m);
            everyOf(x, 4, m, 1 << 2 * m, 0, 1 << 2 * m);
        }
        everyOf(x, 5, 3, 64, 1, 64);
        everyOf(x, 5, 4, 0, 0, 256);
        // The first row of calls again: what was found for others is not in the way.
        everyOf(x, 0, 2, 16, 1, 16);
    }

    // ---- 24

    private static void ramOf(GalleyStroke x, int n, int way, int a, int beat) {
        Checks.due("ram(" + n + ", 0)", x.ram(n, 0), way);
        Checks.due("ram(" + n + ", 1)", x.ram(n, 1), a);
        Checks.due("ram(" + n + ", 2)", x.ram(n, 2), beat);
    }

    private static void ram() {
        String laws = "parts 12; law d = drum; law f = own; law copy = ahead;";
        Checks.edge("III", "RAM at stroke n (from the next one on, 1 .. 60 STROKES from now)", () -> {
            GalleyStroke x = Checks.fine(laws + "man a d 0; man b f 6; drum 0 0;");
            ramOf(x, 1, 2, 1, 4);
            ramOf(x, 60, 2, 60, 4);
            // Only the first of 60 STROKES hears the drum.
            GalleyStroke first = Checks.fine(laws + "man a d 0; man b f 6; drum 0 0; fog 1 99;");
            ramOf(first, 1, 2, 1, 4);
            ramOf(first, 2, 2, 1, 4);
            ramOf(first, 59, 2, 1, 4);
            ramOf(first, 60, 2, 1, 4);
            // Only the last of 60.
            GalleyStroke last = Checks.fine(laws + "man a d 0; man b f 6; drum 0 0; fog 0 58;");
            ramOf(last, 59, 1, 59, 0);
            ramOf(last, 60, 2, 60, 4);
            last.row(1);
            ramOf(last, 58, 1, 58, 0);
            ramOf(last, 59, 2, 59, 4);
        });
        Checks.edge("III", "of alike ones the greatest a, then the least x", () -> {
            ramOf(Checks.fine(laws + "man a f 3; drum 5 0;"), 7, 1, 7, 0);
            ramOf(Checks.fine(laws + "man a d 0; man b copy 0; man c f 6; drum 0 0;"), 3, 3, 2, 4);
            ramOf(Checks.fine(laws + "man a d 0; man b copy 0; man c copy 0; man e f 6; drum 0 0;"), 3, 4, 1, 4);
            // By a LAG of 1 there is one x alone: the least part, the greatest, and the beat that there is.
            String four = laws + "man a d 8; man b f #; man c d 8; man e f @; drum 5 1;";
            ramOf(Checks.fine(four.replace("#", "0").replace("@", "2")), 2, 4, 2, 0);
            ramOf(Checks.fine(four.replace("#", "11").replace("@", "1")), 2, 4, 2, 11);
            ramOf(Checks.fine(four.replace("#", "5").replace("@", "7")), 2, 4, 2, 5);
        });
        Checks.edge("III", "ahead of it as it is now; FOG and LAG as told", () -> {
            ramOf(Checks.fine(laws + "man a f 4; man b d 0; man c copy 0; man e f 4; drum 9 0;"), 4, 4, 3, 2);
            ramOf(Checks.fine(laws + "man a d 0; man b d 6; drum 0 6;"), 2, 1, 2, 0);
            ramOf(Checks.fine(laws + "man a d 0; man b f 6; drum 0 0; fog 2 2;"), 3, 2, 2, 4);
            ramOf(Checks.fine(laws + "man a d 0; man b f 6; drum 0 0; fog 0 2;"), 3, 1, 3, 0);
            GalleyStroke now = Checks.fine(laws + "man a d 0; man b copy 0; man c f 6; drum 0 0;");
            now.beat(8);
            // By the drum now b copies 8, which goes with 6.
            ramOf(now, 2, 3, 2, 6);
            // FOG of the STROKES ahead of a: b copies 0, or all that comes of 8.
            GalleyStroke fog = Checks.fine(laws + "man a d 0; man b copy 0; man c f 6; drum 8 0; fog 0 0; fog 6 6;");
            ramOf(fog, 2, 2, 2, 0);
            ramOf(Checks.fine(laws + "man a d 0; man b copy 0; man c f 6; drum 8 0; fog 1 1;"), 2, 3, 2, 0);
            fog.row(5);
            fog.set(0, 0);
            // From stroke 5 on: b copies 8 of the first STROKE, and a hears no other in the second.
            ramOf(fog, 2, 3, 2, 0);
        });
        Checks.edge("Promise 24", "-2: no drum; NONE: no such ones, no men", () -> {
            GalleyStroke x = Checks.fine(laws + "man a d 0; man b f 6; drum 0 0;");
            GalleyStroke none = Checks.fine(laws + "man a d 0; man b f 6;");
            long[] before = Checks.seen(x);
            int[][] wrong = {{0, 0}, {61, 0}, {-1, 0}, {MIN, 0}, {MAX, 0}, {1, -1}, {1, 3}, {1, MIN}, {1, MAX}};
            for (int[] w : wrong) {
                Checks.due("ram(" + w[0] + ", " + w[1] + ")", x.ram(w[0], w[1]), -1);
                Checks.due("ram(" + w[0] + ", " + w[1] + ") without a drum", none.ram(w[0], w[1]), -1);
            }
            Checks.unchanged("ram()", x, before);
            ramOf(none, 1, -2, -2, -2);
            ramOf(none, 60, -2, -2, -2);
            none.beat(0);
            ramOf(none, 1, 2, 1, 4);
            Checks.due("no men", Checks.fine(laws + "drum 1 1;").ram(1, 0), -1);
            Checks.due("no men, no drum", new GalleyStroke().ram(1, 0), -1);
        });
    }

    // ---- 25

    private static void odds() {
        // WAY is 2 behind any STROKE without FOG, else 1.
        String two = "parts 12; law d = drum; man a d 0; man b d 6; drum 3 0; ";
        Checks.edge("III", "ODDS: each of the next n STROKES (1 .. 10)", () -> {
            GalleyStroke x = Checks.fine(two);
            Checks.due("odds(1, 1, 3)", x.odds(1, 1, 3), 2 * 3 - 1);
            Checks.due("odds(2, 1, 3)", x.odds(2, 1, 3), 2 * 9 - 1);
            Checks.due("odds(9, 8, 9)", x.odds(9, 8, 9), 2 * 387420489L - 134217728L);
            Checks.due("odds(10, 8, 9)", x.odds(10, 8, 9), 2 * 3486784401L - 1073741824L);
            // Only one of ten matters: WAY is 2 if that has no FOG.
            String one = "parts 12; law n = own + 1; law d = if ahead == # then drum else own; man a n 0; man b d 3;"
                + "drum 10 0;";
            for (String which : new String[] {"0", "4", "9"}) {
                GalleyStroke x10 = Checks.fine(one.replace("#", which));
                Checks.due("odds(10, 1, 3)", x10.odds(10, 1, 3), 19683 * (1 + 2 * 2));
                Checks.due("odds(10, 2, 3)", x10.odds(10, 2, 3), 19683 * (2 + 2));
            }
        });
        Checks.edge("III", "ODDS: b 1 .. 9, a 0 .. b", () -> {
            GalleyStroke x = Checks.fine(two);
            Checks.due("odds(1, 0, 1)", x.odds(1, 0, 1), 2);
            Checks.due("odds(1, 1, 1)", x.odds(1, 1, 1), 1);
            Checks.due("odds(1, 0, 9)", x.odds(1, 0, 9), 18);
            Checks.due("odds(1, 9, 9)", x.odds(1, 9, 9), 9);
            Checks.due("odds(10, 0, 9)", x.odds(10, 0, 9), 2 * 3486784401L);
            Checks.due("odds(10, 9, 9)", x.odds(10, 9, 9), 3486784401L);
            Checks.due("odds(10, 1, 1)", x.odds(10, 1, 1), 1);
            Checks.due("the most that can be", Checks.fine(Texts.standing(24, 7, 7, 7, 7, 7, 7, 7, 7, 7, 7, 7, 7))
                .odds(10, 5, 9), 12 * 3486784401L);
        });
        Checks.edge("III", "ODDS: and not by what is told", () -> {
            Checks.due("FOG told", Checks.fine(two + "fog 0 99;").odds(2, 1, 3), 17);
            Checks.due("no FOG told", Checks.fine(two).odds(2, 1, 3), 17);
            Checks.due("no drum", Checks.fine(Texts.standing(24, 1, 1, 9)).odds(3, 1, 2), 2 * 8);
        });
        Checks.edge("Promise 25", "-1: no such ones, no men", () -> {
            GalleyStroke x = Checks.fine(two);
            long[] before = Checks.seen(x);
            int[][] wrong = {{0, 1, 3}, {11, 1, 3}, {-1, 1, 3}, {MIN, 1, 3}, {MAX, 1, 3}, {1, -1, 3}, {1, 4, 3},
                {1, MIN, 3}, {1, MAX, 3}, {1, 0, 0}, {1, 0, -1}, {1, -1, -1}, {1, 1, 10}, {1, 10, 10}, {1, 10, 9},
                {1, 0, MAX}, {1, 0, MIN}};
            for (int[] w : wrong) {
                Checks.due("odds(" + w[0] + ", " + w[1] + ", " + w[2] + ")", x.odds(w[0], w[1], w[2]), -1);
            }
            Checks.unchanged("odds()", x, before);
            Checks.due("no men", new GalleyStroke().odds(1, 0, 1), -1);
        });
    }
}
