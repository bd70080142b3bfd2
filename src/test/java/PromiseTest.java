/** For each promise what the document says of it: ordinary inputs, the edges that it names, wrong inputs. */
public final class PromiseTest {
    private static int wrong = 0;

    private static final String CREW = "parts 12; law copy = ahead; law beat = drum; law fix = own;"
        + "man a beat 0; man b copy 3; man c fix 9; drum 10 3; song 2; fog 1 1;";

    public static void main(String[] args) {
        newObject();
        feed();
        back();
        syntaxFaults();
        roomFaults();
        laterFaults();
        readReplaces();
        place();
        bench();
        row();
        laws();
        undo();
        clashes();
        way();
        wave();
        soon();
        rubs();
        still();
        round();
        change();
        teach();
        set();
        beat();
        seatings();
        seatingEdges();
        every();
        ram();
        odds();
        tellAndForget();
        suspects();
        suspectsAsTold();
        check();
        slots();
        count();
        System.out.println(wrong == 0 ? "all promises hold" : wrong + " answers are not as due");
        if (wrong != 0) {
            System.exit(1);
        }
    }

    private static void due(int promise, String call, long got, long want) {
        if (got != want) {
            wrong++;
            System.out.println("promise " + promise + ": " + call + " answered " + got + ", due is " + want);
        }
    }

    private static void due(int promise, String call, boolean got, boolean want) {
        due(promise, call, got ? 1 : 0, want ? 1 : 0);
    }

    private static GalleyStroke of(String text) {
        GalleyStroke x = new GalleyStroke();
        due(4, "read() of " + text, Feeding.read(x, text), 0);
        return x;
    }

    private static void times(int promise, String when, GalleyStroke x, int... want) {
        for (int b = 0; b < want.length; b++) {
            due(promise, "TIME of bench " + b + " " + when, x.bench(b, 0), want[b]);
        }
    }

    private static void fault(String text, int fault, int place) {
        GalleyStroke x = new GalleyStroke();
        due(4, "read() of " + text, Feeding.read(x, text), fault);
        due(5, "place() of " + text, x.place(), place);
        due(4, "bytes behind read() of " + text, x.count(8), 0);
    }

    // ---- 1 to 5

    private static void newObject() {
        GalleyStroke x = new GalleyStroke();
        int[] counts = {24, 0, 0, 0, -2, 0, -2, 0, 0, 0, 0, 0, 0};
        for (int what = 0; what < counts.length; what++) {
            due(1, "count(" + what + ")", x.count(what), counts[what]);
        }
        due(1, "place()", x.place(), GalleyStroke.NONE);
        due(1, "bench(0, 0)", x.bench(0, 0), -1);
        due(1, "still()", x.still(), 1);
        due(1, "undo()", x.undo(), false);
        due(1, "restore(0)", x.restore(0), false);
        due(1, "every(0, 1, 0)", x.every(0, 1, 0), -1);
        due(1, "teach(0, 0)", x.teach(0, 0), false);
        due(1, "set(0, 0)", x.set(0, 0), false);
        due(1, "change(0, 1)", x.change(0, 1), false);
        due(1, "way(1)", x.way(1), -1);
        due(1, "seat(0, 1, 0)", x.seat(0, 1, 0), -1);
        due(1, "row(100)", x.row(100), 100);
    }

    private static void feed() {
        GalleyStroke x = new GalleyStroke();
        for (int i = 1; i <= 100; i++) {
            due(2, "feed " + i, x.feed(0x20202020, 0x20202020, 0x20202020, 0x20202020, 0x20202020), 20 * i);
        }
        due(2, "feed 101", x.feed(0, 0, 0, 0, 0), -1);
        due(2, "count(8)", x.count(8), 2000);
        x.back(19);
        due(2, "feed at 1981", x.feed(0, 0, 0, 0, 0), -1);
        x.back(1);
        // "parts 7;" and blanks: the highest byte comes first.
        due(2, "feed at 1980", x.feed(0x70617274, 0x7320373b, 0x20202020, 0x20202020, 0x20202020), 2000);
        due(2, "read() of 2000 bytes", x.read(), 0);
        due(2, "count(0)", x.count(0), 7);
        // Each int has its place: "law a = own ; song 3;" cut anew.
        x.feed(0x6c617720, 0x61203d20, 0x6f776e3b, 0x736f6e67, 0x2033203b);
        due(2, "read() of five ints", x.read(), 0);
        due(2, "song", x.count(6), 3);
        x.feed(0x80ffffff, -1, -1, -1, -1);
        due(2, "read() of high bytes", x.read(), 1);
    }

    private static void back() {
        GalleyStroke x = new GalleyStroke();
        due(3, "back(0)", x.back(0), 0);
        due(3, "back(1) of none", x.back(1), -1);
        Feeding.put(x, "parts 9; parts 8;   ");
        due(3, "back(-1)", x.back(-1), -1);
        due(3, "back(21)", x.back(21), -1);
        due(3, "back(0)", x.back(0), 20);
        due(3, "back(11)", x.back(11), 9);
        due(3, "read()", x.read(), 0);
        due(3, "count(0)", x.count(0), 9);
        Feeding.put(x, "parts 9; parts 8;   ");
        due(3, "back(20)", x.back(20), 0);
        due(3, "back(MIN)", x.back(Integer.MIN_VALUE), -1);
        due(3, "back(MAX)", x.back(Integer.MAX_VALUE), -1);
    }

    private static void syntaxFaults() {
        fault("", 0, -1);
        fault(" \t\r\n ", 0, -1);
        fault("\u000bparts 9;", 1, 0);
        fault("\u0000", 1, 0);
        fault("parts 9;\u0000", 1, 8);
        fault("parts", 1, 5);
        fault("parts 12", 1, 8);
        fault("parts 12  ", 1, 10);
        fault("parts ;", 1, 6);
        fault("parts 12 12;", 1, 9);
        fault("parts12;drum3 4;song5;fog6 7;", 0, -1);
        fault("parts\n12\t;\r", 0, -1);
        fault("row 3;", 1, 0);
        fault(";", 1, 0);
        fault("song 0023;", 0, -1);
        fault("song 00023;", 1, 5);
        fault("song a;", 1, 5);
        fault("song 3a;", 1, 6);
        fault("law abcdefgh = own;", 0, -1);
        fault("law abcdefghi = own;", 1, 4);
        fault("law Ab = own;", 1, 4);
        fault("law if = own;", 1, 4);
        fault("law drum = own;", 1, 4);
        fault("law drums = own;", 0, -1);
        fault("law a == own;", 1, 6);
        fault("law a=own;", 0, -1);
        fault("law a = ;", 1, 8);
        fault("law a = - own;", 1, 8);
        fault("law a = own own;", 1, 12);
        fault("law a = own !own;", 1, 12);
        fault("law a = own < 3;", 1, 12);
        fault("law a = own > 3;", 1, 12);
        fault("law a = own.", 1, 11);
        fault("law a = own\u00e9;", 1, 11);
        fault("law a = (own;", 1, 12);
        fault("law a = (own));", 1, 13);
        fault("law a = ();", 1, 9);
        fault("law a = gap own;", 1, 12);
        fault("law a = gap(own);", 1, 15);
        fault("law a = gap(own, 1, 2);", 1, 18);
        fault("law a = (own, 2);", 1, 12);
        fault("law a = name;", 1, 8);
        fault("law a = if own < 3 then own;", 1, 27);
        fault("law a = if own then own else own;", 1, 15);
        fault("law a = if own == 3 == 4 then own else own;", 1, 20);
        fault("law a = if (own < 3) then own else own;", 1, 16);
        fault("law a = if own = 3 then own else own;", 1, 15);
        fault("law a = if own < not 3 then own else own;", 1, 17);
        fault("law a = if own < 3 and then own else own;", 1, 23);
        fault("law a = if own < 3 then if own < 2 then 1 else 2 else own;", 1, 24);
        fault("law a = if not not own <= 3 or own != 2 and own < 1 then (own) else gap(1, 2) * 3;", 0, -1);
        fault("law a = if own<=3 then 1 else if own==4 then 2 else 3;", 0, -1);
        fault("law a = if own === 3 then 1 else 2;", 1, 17);
        fault("man a b;", 1, 7);
        fault("man a 3;", 1, 6);
        fault("man a b 3 4;", 1, 10);
        fault("drum 3;", 1, 6);
        fault("fog 3;", 1, 5);
        fault("fog 3 4 5;", 1, 8);
    }

    private static void roomFaults() {
        fault(Texts.many("law # = own;", 6), 0, -1);
        fault(Texts.many("law # = own;", 7), 2, 72);
        fault(Texts.many("law # = own;", 6) + "law 7", 2, 72);
        fault("law x = own;" + Texts.many("man # x 1;", 12), 0, -1);
        fault("law x = own;" + Texts.many("man # x 1;", 13), 2, 132);
        fault(Texts.many("fog 1 2;", 4), 0, -1);
        fault(Texts.many("fog 1 2;", 5), 2, 32);
        String branch = "if own<1 then 1 else ";
        fault("law a = " + Texts.many(branch, 8) + "2; law b = " + Texts.many(branch, 8) + "2;", 0, -1);
        fault("law a = " + Texts.many(branch, 9) + "2;", 2, 8 + 8 * 21);
        fault("law a = ((((((1))))));", 0, -1);
        fault("law a = (((((((1)))))));", 2, 14);
        fault("law a = (((((gap(1, (2)))))));", 2, 20);
        fault("law a = ((((((1)))))) + ((((((1))))));", 0, -1);
        fault("law a = gap(gap(gap(gap(gap(gap(1,1),1),1),1),1),1);", 0, -1);
        fault("law a = gap(gap(gap(gap(gap(gap(gap(1,1),1),1),1),1),1),1);", 2, 35);
        // 133 songs are 399 tokens.
        fault(Texts.many("song 1;", 133), 0, -1);
        fault(Texts.many("song 1;", 134), 2, 133 * 7 + 5);
        fault(Texts.many("song 1;", 133) + "song ;", 1, 133 * 7 + 5);
        fault(Texts.many("song 1;", 132) + "drum 1 2;", 0, -1);
        fault(Texts.many("song 1;", 132) + "drum 1 2;  ", 0, -1);
        fault(Texts.many("song 1;", 132) + "drum 1 2; parts 3;", 2, 132 * 7 + 10);
        fault(Texts.many("song 1;", 132) + "drum 1 2; ?", 1, 132 * 7 + 10);
        fault(Texts.many("song 1;", 132) + "drum 1 2; own", 1, 132 * 7 + 10);
        // A fault of syntax behind one of room comes later, one ahead of it sooner.
        fault(Texts.many("fog 1 2;", 5) + "?", 2, 32);
        fault("fog 1;" + Texts.many("fog 1 2;", 5), 1, 5);
    }

    private static void laterFaults() {
        fault("law a = own; law a = own;", 3, 17);
        fault("law a = own; man a a 1;", 3, 17);
        fault("law a = own; man b a 1; man b a 2;", 3, 28);
        fault("law a = own; man b a 1; law b = own;", 3, 28);
        fault("man b a 1; law a = own;", 4, 6);
        fault("law a = own; man b c 1;", 4, 19);
        fault("law a = own; man b a 1; man c b 1;", 4, 30);
        fault("law a = own; man b b 1;", 4, 19);
        fault("parts 2;", 5, 6);
        fault("parts 3;", 0, -1);
        fault("parts 24;", 0, -1);
        fault("parts 25;", 5, 6);
        fault("parts 0; parts 12;", 5, 6);
        fault("drum 1 23;", 0, -1);
        fault("drum 1 24;", 5, 7);
        fault("fog 999 999;", 0, -1);
        fault("fog 1000 1000;", 5, 4);
        fault("fog 1 1000;", 5, 6);
        fault("fog 5 4;", 5, 6);
        fault("fog 0 0;", 0, -1);
        // The first by its place, whatever its number.
        fault("drum 1 24; law a = own; law a = own;", 5, 7);
        fault("law a = own; man b c 1; parts 2;", 4, 19);
        fault("law a = own; law a = own; parts 2;", 3, 17);
        // Syntax and room ahead of all others.
        fault("parts 2; parts", 1, 14);
        fault("parts 2;" + Texts.many("fog 1 2;", 5), 2, 40);
        // Beyond behind all others, by the last parts told.
        fault("song 24;", 6, 5);
        fault("song 23;", 0, -1);
        fault("drum 24 0;", 6, 5);
        fault("law a = own; man b a 24;", 6, 21);
        fault("law a = own; man b a 11; drum 5 11; song 11; parts 12;", 0, -1);
        fault("law a = own; man b a 11; drum 5 11; song 11; parts 11;", 6, 21);
        fault("song 11; law a = own; man b a 11; parts 11;", 6, 5);
        fault("song 11; song 3; parts 11;", 6, 5);
        fault("drum 11 0; drum 3 0; parts 11;", 6, 5);
        fault("parts 5; song 11; parts 12;", 0, -1);
        fault("song 24; parts 2;", 5, 15);
        fault("song 9999; drum 1 24;", 5, 18);
    }

    private static void readReplaces() {
        GalleyStroke x = of(CREW);
        x.row(3);
        x.change(0, 2);
        x.beat(5);
        x.tell(1, 1, true);
        x.hold(1);
        due(4, "read() of a fault", Feeding.read(x, "parts 5; song 7;"), 6);
        due(4, "PARTS stay", x.count(0), 12);
        due(4, "stroke stays", x.count(3), 3);
        due(4, "drum stays", x.count(4), 5);
        due(4, "song stays", x.count(6), 2);
        due(4, "undo stays", x.count(9), 3);
        due(4, "TOLD stays", x.count(10), 1);
        due(4, "SLOTS stay", x.count(11), 1);
        due(4, "men stay", x.bench(0, 1), 2);
        due(4, "a STROKE by the text in place", x.row(1), 4);
        due(4, "read()", Feeding.read(x, "law k = own + 1; man z k 4;"), 0);
        int[] counts = {24, 1, 1, 0, -2, 0, -2, 0, 0, 0, 0, 0, 0};
        for (int what = 0; what < counts.length; what++) {
            due(4, "count(" + what + ") behind read()", x.count(what), counts[what]);
        }
        due(4, "bench(0, 0)", x.bench(0, 0), 4);
        due(4, "bench(0, 1)", x.bench(0, 1), 0);
        due(4, "bench(1, 0)", x.bench(1, 0), -1);
        due(4, "restore(1)", x.restore(1), false);
        due(4, "undo()", x.undo(), false);
        due(4, "read() of nothing", x.read(), 0);
        due(4, "no men", x.count(2), 0);
        GalleyStroke last = of("parts 5; drum 1 2; song 3; parts 9; drum 4 5; song 6; fog 1 2; fog 4 4;");
        due(4, "the last PARTS", last.count(0), 9);
        due(4, "the last drum", last.count(4), 4);
        due(4, "the last LAG", last.count(5), 5);
        due(4, "the last song", last.count(6), 6);
        due(4, "all fogs", last.count(7), 2);
    }

    private static void place() {
        GalleyStroke x = new GalleyStroke();
        Feeding.read(x, "parts 2;");
        due(5, "place()", x.place(), 6);
        Feeding.put(x, "parts");
        due(5, "place() ahead of the next read()", x.place(), 6);
        x.read();
        due(5, "place() at the end", x.place(), 5);
        Feeding.read(x, "parts 3;");
        due(5, "place() without a FAULT", x.place(), -1);
    }

    // ---- 6 to 8

    private static void bench() {
        GalleyStroke x = of(CREW);
        int[][] want = {{0, 0, 1, 10}, {3, 1, 0, 1}, {9, 2, 2, 4}};
        for (int b = 0; b < 3; b++) {
            for (int what = 0; what < 4; what++) {
                due(6, "bench(" + b + ", " + what + ")", x.bench(b, what), want[b][what]);
            }
            due(6, "bench(" + b + ", 4)", x.bench(b, 4), -1);
            due(6, "bench(" + b + ", -1)", x.bench(b, -1), -1);
        }
        due(6, "bench(3, 0)", x.bench(3, 0), -1);
        due(6, "bench(-1, 0)", x.bench(-1, 0), -1);
        due(6, "bench(MIN, 1)", x.bench(Integer.MIN_VALUE, 1), -1);
        x.row(1);
        times(6, "behind a STROKE", x, 10, 0, 9);
        due(6, "bench(1, 3) in FOG", x.bench(1, 3), 0);
        x.row(1);
        due(6, "bench(1, 3) behind FOG", x.bench(1, 3), 1);
        GalleyStroke none = of("law a = own; man b a 5; man c a 6;");
        due(6, "bench(1, 3) without a drum", none.bench(1, 3), 6);
    }

    private static void row() {
        GalleyStroke x = of("parts 5; law k = own + 1; man a k 3;");
        due(7, "row(0)", x.row(0), 0);
        due(7, "row(-1)", x.row(-1), -1);
        due(7, "row(101)", x.row(101), -1);
        times(7, "behind nothing", x, 3);
        due(7, "row(1)", x.row(1), 1);
        times(7, "behind 1", x, 4);
        due(7, "row(100)", x.row(100), 101);
        times(7, "behind 101", x, 4);
        due(7, "row(3)", x.row(3), 104);
        times(7, "behind 104", x, 2);
        GalleyStroke fog = of("law d = drum; man a d 0; man b d 1; drum 5 3; fog 1 2; fog 4 4;");
        fog.row(1);
        times(7, "behind stroke 0", fog, 5, 8);
        fog.beat(10);
        fog.row(1);
        times(7, "behind stroke 1, in FOG", fog, 5, 8);
        fog.row(1);
        times(7, "behind stroke 2, in FOG", fog, 5, 8);
        fog.row(1);
        times(7, "behind stroke 3", fog, 10, 13);
        fog.beat(1);
        fog.row(1);
        times(7, "behind stroke 4, in FOG", fog, 10, 13);
        fog.row(1);
        times(7, "behind stroke 5", fog, 1, 4);
    }

    /** Benches 0, 1, 2 with own 5, 9, 20; ahead 5, 5, 9; two 5, 5, 5; drum 3, 5, 7; song 7. */
    private static void law(String law, int a, int b, int c) {
        GalleyStroke x = of("law x = " + law + "; man a x 5; man b x 9; man c x 20; drum 3 2; song 7;");
        x.row(1);
        times(7, "by " + law, x, a, b, c);
    }

    private static void laws() {
        law("own", 5, 9, 20);
        law("ahead", 5, 5, 9);
        law("two", 5, 5, 5);
        law("drum", 3, 5, 7);
        law("bench", 0, 1, 2);
        law("song", 7, 7, 7);
        law("own - 6", 23, 3, 14);
        law("own * 2 + 1", 11, 19, 17);
        law("1 + own * 2", 11, 19, 17);
        law("(1 + own) * 2", 12, 20, 18);
        law("20 - own - 3", 12, 8, 21);
        law("20 - (own - 3)", 18, 14, 3);
        law("100 / own / 2", 10, 5, 2);
        law("100 / (own / 2)", 2, 1, 10);
        law("(0 - 7) / 2", 21, 21, 21);
        law("7 / (0 - 2)", 21, 21, 21);
        law("9 / (own - 9)", 22, 9, 0);
        law("0 * (1 / (own - own))", 5, 9, 20);
        int cube = Math.floorMod(9999 * 9999 * 9999, 24);
        law("9999 * 9999 * 9999", cube, cube, cube);
        law("8192 * 8192 * 32 / (0 - 1)", 16, 16, 16);
        law("gap(own, 20)", 9, 13, 0);
        law("if gap(own, 20) < 0 then 1 else 2", 2, 1, 2);
        law("if gap(12, 0) == 12 then 1 else 2", 1, 1, 1);
        law("if gap(0, 12) == 12 then 1 else 2", 1, 1, 1);
        law("if gap(0 - 100, 7) == 13 - 24 + 24 / 24 * 0 then 1 else 2", 1, 1, 1);
        law("if own == 9 or 1 / (own - 9) < 5 then 1 else 2", 1, 1, 1);
        law("if 1 / (own - 9) < 5 or own == 9 then 1 else 2", 1, 9, 1);
        law("if own != 9 and 1 / (own - 9) < 5 then 1 else 2", 1, 2, 1);
        law("if own == 9 then 3 else 8 / (own - 9)", 22, 3, 0);
        law("if own != 9 then 3 else 8 / (own - 9)", 3, 9, 3);
        law("if bench == 0 or bench == 1 and own == 20 then 1 else 2", 1, 2, 2);
        law("if own == 20 and bench == 1 or bench == 0 then 1 else 2", 1, 2, 2);
        law("if bench == 0 and own == 9 or bench == 1 and own == 9 or bench == 2 then 1 else 2", 2, 1, 1);
        law("if not not bench == 0 then 1 else 2", 1, 2, 2);
        law("if not bench == 0 and bench < 2 then 1 else 2", 2, 1, 2);
        law("if bench < 1 then 4 else if bench <= 1 then 6 else 8", 4, 6, 8);
        law("if own < 9 then 1 else if own <= 9 then 2 else 3", 1, 2, 3);
        law("if own != 9 then 1 else 2", 1, 2, 1);
        GalleyStroke bare = of("parts 5; law d = drum + 1; law s = song + 2; law g = gap(3, 0); law h = gap(2, 0);"
            + "law m = if gap(3, 0) < 0 then 1 else 0; man a d 1; man b s 4; man c g 0; man e h 0; man f m 0;");
        bare.row(1);
        times(7, "without drum and song", bare, 2, 1, 3, 2, 1);
    }

    private static void undo() {
        GalleyStroke x = of(CREW);
        due(8, "undo() of none", x.undo(), false);
        x.row(2);
        times(8, "behind two", x, 10, 10, 9);
        x.set(0, 5);
        x.teach(1, 2);
        x.beat(7);
        x.change(0, 2);
        due(8, "undo()", x.undo(), true);
        times(8, "behind undo()", x, 10, 0, 9);
        due(8, "the stroke", x.count(3), 1);
        due(8, "how many more", x.count(9), 1);
        due(8, "the men stay exchanged", x.bench(0, 1), 2);
        due(8, "with their LAWS", x.bench(0, 2), 2);
        due(8, "the LAW stays taught", x.bench(1, 2), 2);
        due(8, "the drum stays", x.count(4), 7);
        due(8, "undo()", x.undo(), true);
        times(8, "behind undo()", x, 0, 3, 9);
        due(8, "undo() of none", x.undo(), false);
        due(8, "the stroke", x.count(3), 0);
        GalleyStroke far = of("parts 24; law k = own + 1; man a k 0;");
        far.row(100);
        far.row(5);
        due(8, "the last 100", far.count(9), 100);
        for (int i = 1; i <= 100; i++) {
            due(8, "undo() " + i, far.undo(), true);
            due(8, "TIME", far.bench(0, 0), (105 - i) % 24);
        }
        due(8, "undo() 101", far.undo(), false);
        due(8, "the stroke", far.count(3), 5);
    }

    // ---- 9 to 15

    private static void clashes() {
        due(9, "a third", of(Texts.standing(24, 0, 8, 15)).clashes(), 2);
        due(9, "a third the other way", of(Texts.standing(24, 0, 16, 9)).clashes(), 2);
        due(9, "half", of(Texts.standing(24, 0, 12, 0)).clashes(), 6);
        due(9, "rounded up, below", of(Texts.standing(10, 0, 3, 0)).clashes(), 0);
        due(9, "rounded up", of(Texts.standing(10, 0, 4, 0)).clashes(), 6);
        due(9, "of 3 parts", of(Texts.standing(3, 0, 1, 1, 0, 2)).clashes(), 2 + 8 + 16);
        due(9, "of 4 parts", of(Texts.standing(4, 0, 1, 3)).clashes(), 4);
        due(9, "one man", of(Texts.standing(24, 5)).clashes(), 0);
        due(9, "the last bench", of(Texts.standing(24, 0, 0, 0, 0, 0, 0, 0, 0, 0, 0, 0, 12)).clashes(), 1 << 11);
    }

    private static void way() {
        GalleyStroke x = of(Texts.standing(24, 23, 0, 1, 12));
        due(10, "way(0)", x.way(0), 3);
        due(10, "way(1)", x.way(1), 0);
        due(10, "way(2)", x.way(2), -1);
        due(10, "way(-1)", x.way(-1), -1);
        due(10, "the least part", of(Texts.standing(24, 12, 5)).way(1), 4);
        due(10, "the least part around", of(Texts.standing(24, 0, 12)).way(1), 0);
        due(10, "around", of(Texts.standing(24, 22, 0)).way(1), 23);
        due(10, "around", of(Texts.standing(24, 22, 0)).way(0), 2);
        due(10, "too far", of(Texts.standing(24, 3, 6)).way(0), 1);
        due(10, "3 parts", of(Texts.standing(3, 0, 1, 2)).way(0), 3);
        due(10, "no men", new GalleyStroke().way(0), -1);
    }

    private static void wave() {
        GalleyStroke x = of(Texts.standing(24, 0, 3, 6, 9, 9, 10, 11, 12));
        due(11, "wave(0)", x.wave(0), 4);
        due(11, "wave(1), the first of alike ones", x.wave(1), 0);
        due(11, "wave(2)", x.wave(2), 3);
        due(11, "wave(3)", x.wave(3), -1);
        due(11, "wave(-1)", x.wave(-1), -1);
        GalleyStroke y = of(Texts.standing(24, 0, 3, 6, 6, 5, 4, 3));
        due(11, "wave(0)", y.wave(0), 4);
        due(11, "wave(1)", y.wave(1), 3);
        due(11, "wave(2)", y.wave(2), -1);
        GalleyStroke z = of(Texts.standing(24, 22, 1, 4, 8));
        due(11, "wave(0) around", z.wave(0), 3);
        due(11, "wave(1) around", z.wave(1), 0);
        due(11, "wave(2) around", z.wave(2), 3);
        GalleyStroke w = of(Texts.standing(24, 5, 5, 5, 6));
        due(11, "two at least", w.wave(0), 2);
        due(11, "the first of them", w.wave(1), 2);
        due(11, "all alike", of(Texts.standing(24, 5, 5, 5)).wave(0), -2);
        due(11, "one man", of(Texts.standing(24, 5)).wave(1), -2);
        due(11, "one man, no such what", of(Texts.standing(24, 5)).wave(3), -1);
    }

    private static GalleyStroke foggy(String fog) {
        return of("law d = drum; man a d 0; man b d 12; drum 5 0; " + fog);
    }

    private static void soon() {
        GalleyStroke x = foggy("fog 0 2;");
        due(12, "soon(1)", x.soon(1), 0);
        due(12, "soon(2)", x.soon(2), 4);
        due(12, "soon(0)", x.soon(0), -1);
        due(12, "soon(3)", x.soon(3), -1);
        due(12, "nothing happens", x.count(3), 0);
        times(12, "nothing happens", x, 0, 12);
        x.row(2);
        due(12, "soon(2) two strokes later", x.soon(2), 2);
        due(12, "behind 100", foggy("fog 0 98;").soon(2), 100);
        due(12, "behind 101", foggy("fog 0 99;").soon(2), -2);
        due(12, "or more", of(Texts.standing(24, 1, 1, 1)).soon(2), 0);
        due(12, "never", of(Texts.standing(24, 1, 5)).soon(2), -2);
    }

    private static void rubs() {
        due(13, "what is now is not looked at", foggy("").rubs(1), -2);
        due(13, "FOG as told", foggy("fog 0 0;").rubs(1), 1);
        GalleyStroke x = of("law d = drum; law copy = ahead; man a d 0; man b copy 0; man c copy 0; man e copy 0;"
            + "drum 12 0;");
        due(13, "rubs(1)", x.rubs(1), 1);
        due(13, "rubs(3), alike", x.rubs(3), 1);
        due(13, "nothing happens", x.count(3), 0);
        x.teach(2, 0);
        x.teach(3, 1);
        // Behind 1: 12 0 12 0, clashes 1 2 3; behind 2: 12 12 12 12.
        due(13, "rubs(2), alike", x.rubs(2), 1);
        GalleyStroke y = of(Texts.standing(24, 0, 1, 13, 13));
        due(13, "rubs(100)", y.rubs(100), 2);
        due(13, "rubs(0)", y.rubs(0), -1);
        due(13, "rubs(101)", y.rubs(101), -1);
        due(13, "none does", of(Texts.standing(24, 0, 1)).rubs(5), -2);
        due(13, "one man", of(Texts.standing(24, 0)).rubs(5), -2);
        // Bench 2 twice (behind 2 and 3), bench 1 once.
        GalleyStroke often = of("law d = drum; law copy = ahead; law fix = own; man a d 0; man b copy 0; man c fix 0;"
            + "drum 12 0;");
        due(13, "rubs(2), alike", often.rubs(2), 1);
        due(13, "most often", often.rubs(3), 2);
    }

    private static void still() {
        due(14, "still", of(Texts.standing(24, 0, 5)).still(), 1);
        GalleyStroke x = foggy("fog 0 0;");
        due(14, "FOG is not looked at", x.still(), 0);
        due(14, "nothing happens", x.count(3), 0);
        x.row(2);
        due(14, "still", x.still(), 1);
        x.beat(6);
        due(14, "another drum", x.still(), 0);
        due(14, "own + 1", of("law k = own + 1; man a k 0;").still(), 0);
        due(14, "a whole turn", of("law k = own + 24; man a k 3;").still(), 1);
    }

    private static void round() {
        GalleyStroke x = of("parts 7; law k = own + 1; man a k 2;");
        due(15, "round(0)", x.round(0), 7);
        due(15, "round(1)", x.round(1), 0);
        due(15, "round(2)", x.round(2), -1);
        due(15, "round(-1)", x.round(-1), -1);
        GalleyStroke y = of("law fix = own; law copy = ahead; man a fix 5; man b copy 0; man c copy 0; fog 0 9;");
        due(15, "round(0)", y.round(0), 1);
        due(15, "round(1)", y.round(1), 2);
        String meter = "law k = own + 1; law z = if ahead == 0 then own + 1 else own; law copy = ahead;"
            + "man a k 1; man b z 0;";
        GalleyStroke z = of("parts 20;" + meter);
        due(15, "p of 400", z.round(0), 400);
        due(15, "s of 400", z.round(1), 0);
        GalleyStroke over = of("parts 20;" + meter + "man c copy 10;");
        due(15, "s + p is 401", over.round(0), -2);
        due(15, "s + p is 401", over.round(1), -2);
        due(15, "s + p is 401, no such what", over.round(2), -1);
        GalleyStroke less = of("parts 19;" + meter + "man c copy 10;");
        due(15, "p of 361", less.round(0), 361);
        due(15, "s of 361", less.round(1), 1);
        due(15, "FOG is not looked at", foggy("fog 0 99;").round(1), 1);
        due(15, "nothing happens", z.count(3), 0);
    }

    // ---- 16 to 19

    private static void change() {
        GalleyStroke x = of(CREW);
        due(16, "change(0, 2)", x.change(0, 2), true);
        int[][] want = {{9, 2, 2}, {3, 1, 0}, {0, 0, 1}};
        for (int b = 0; b < 3; b++) {
            for (int what = 0; what < 3; what++) {
                due(16, "bench(" + b + ", " + what + ")", x.bench(b, what), want[b][what]);
            }
        }
        x.row(1);
        times(16, "behind a STROKE", x, 9, 9, 4);
        due(16, "change(1, 1)", x.change(1, 1), false);
        due(16, "change(3, 0)", x.change(3, 0), false);
        due(16, "change(0, 3)", x.change(0, 3), false);
        due(16, "change(-1, 0)", x.change(-1, 0), false);
        due(16, "change(0, -1)", x.change(0, -1), false);
        times(16, "behind wrong ones", x, 9, 9, 4);
        due(16, "change(2, 1)", x.change(2, 1), true);
        times(16, "the greater one first", x, 9, 4, 9);
    }

    private static void teach() {
        GalleyStroke x = of(CREW);
        due(17, "teach(2, 0)", x.teach(2, 0), true);
        due(17, "bench(2, 2)", x.bench(2, 2), 0);
        due(17, "teach(2, 3)", x.teach(2, 3), false);
        due(17, "teach(2, -1)", x.teach(2, -1), false);
        due(17, "teach(3, 0)", x.teach(3, 0), false);
        due(17, "teach(-1, 0)", x.teach(-1, 0), false);
        x.row(1);
        times(17, "behind a STROKE", x, 10, 0, 3);
        x.change(0, 2);
        due(17, "the LAW goes with the man", x.bench(0, 2), 0);
    }

    private static void set() {
        GalleyStroke x = of(CREW);
        due(18, "set(2, 11)", x.set(2, 11), true);
        due(18, "set(1, 0)", x.set(1, 0), true);
        times(18, "set", x, 0, 0, 11);
        due(18, "set(2, 12)", x.set(2, 12), false);
        due(18, "set(2, -1)", x.set(2, -1), false);
        due(18, "set(3, 0)", x.set(3, 0), false);
        due(18, "set(-1, 0)", x.set(-1, 0), false);
        times(18, "behind wrong ones", x, 0, 0, 11);
    }

    private static void beat() {
        GalleyStroke x = of(CREW);
        due(19, "beat(11)", x.beat(11), true);
        due(19, "the drum", x.count(4), 11);
        due(19, "LAG stays", x.bench(2, 3), 5);
        due(19, "beat(12)", x.beat(12), false);
        due(19, "beat(-1)", x.beat(-1), false);
        due(19, "the drum stays", x.count(4), 11);
        x.row(1);
        times(19, "behind a STROKE", x, 11, 0, 9);
        GalleyStroke none = of("law d = drum; man a d 1; man b d 2;");
        due(19, "beat(0)", none.beat(0), true);
        due(19, "a LAG of 0", none.count(5), 0);
        due(19, "bench(1, 3)", none.bench(1, 3), 0);
        none.row(1);
        times(19, "behind a STROKE", none, 0, 0);
    }

    // ---- 20 to 22

    private static void seats(int promise, GalleyStroke x, int what, int n, int... want) {
        for (int b = 0; b < want.length; b++) {
            due(promise, "seat(" + what + ", " + n + ", " + b + ")", x.seat(what, n, b), want[b]);
        }
    }

    private static void seatings() {
        GalleyStroke x = of("parts 12; law copy = ahead; law fix = own; man a copy 6; man b fix 0; man c copy 0;"
            + "fog 0 99;");
        due(20, "seating(0, 5), still now", x.seating(0, 5), 0);
        seats(21, x, 0, 5, 0, 1, 2);
        due(22, "better(0, 5)", x.better(0, 5), -2);
        due(20, "seating(1, 2)", x.seating(1, 2), 0);
        seats(21, x, 1, 2, 1, 2, 0);
        due(22, "better(1, 2)", x.better(1, 2), 2);
        due(20, "seating(2, 2)", x.seating(2, 2), 6);
        seats(21, x, 2, 2, 1, 2, 0);
        due(22, "better(2, 2)", x.better(2, 2), 2);
        times(20, "nothing happens", x, 6, 0, 0);
        due(20, "nothing happens", x.bench(0, 1), 0);
        // By BENCH now, not by man.
        x.change(0, 1);
        seats(21, x, 1, 2, 0, 2, 1);
        due(22, "better(1, 2) behind change", x.better(1, 2), 2);
        // One alone runs on for ever: n + 1, and the order now.
        GalleyStroke on = of("parts 5; law k = own + 1; law fix = own; man a fix 0; man b k 1;");
        due(20, "seating(0, 4), never still", on.seating(0, 4), 5);
        seats(21, on, 0, 4, 0, 1);
        due(22, "better(0, 4)", on.better(0, 4), -2);
        // Behind how many strokes it is still, n itself among them.
        GalleyStroke chain = of("law copy = ahead; law d = drum; man a d 0; man b copy 0; man c copy 0; drum 3 0;");
        chain.teach(0, 1);
        due(20, "seating(0, 3)", chain.seating(0, 3), 1);
        seats(21, chain, 0, 3, 1, 2, 0);
        GalleyStroke slow = of("law s = if own < 5 then own + 1 else own; man a s 2; man b s 1;");
        due(20, "seating(0, 4)", slow.seating(0, 4), 4);
        due(20, "seating(0, 3)", slow.seating(0, 3), 4);
        due(20, "seating(0, 5)", slow.seating(0, 5), 4);
    }

    private static void seatingEdges() {
        GalleyStroke six = of(Texts.standing(24, 0, 12, 0, 12, 0, 12));
        due(20, "six men", six.seating(1, 1), 1);
        seats(21, six, 1, 1, 0, 2, 4, 1, 3, 5);
        due(22, "six men", six.better(1, 1), 104);
        due(20, "seating(1, 30)", six.seating(1, 30), 30);
        due(20, "seating(1, 31)", six.seating(1, 31), -1);
        due(20, "seating(1, 0)", six.seating(1, 0), -1);
        due(20, "seating(3, 1)", six.seating(3, 1), -1);
        due(20, "seating(-1, 1)", six.seating(-1, 1), -1);
        due(21, "seat(1, 1, 6)", six.seat(1, 1, 6), -1);
        due(21, "seat(1, 1, -1)", six.seat(1, 1, -1), -1);
        due(21, "seat(3, 1, 0)", six.seat(3, 1, 0), -1);
        due(21, "seat(1, 31, 0)", six.seat(1, 31, 0), -1);
        due(22, "better(3, 1)", six.better(3, 1), -1);
        due(22, "better(-1, 1)", six.better(-1, 1), -1);
        due(22, "better(1, 0)", six.better(1, 0), -1);
        due(22, "better(1, 31)", six.better(1, 31), -1);
        GalleyStroke seven = of(Texts.standing(24, 0, 12, 0, 12, 0, 12, 12));
        due(20, "seven men", seven.seating(1, 1), -2);
        due(20, "seven men, no such what", seven.seating(3, 1), -1);
        due(21, "seven men", seven.seat(1, 1, 0), -2);
        due(21, "seven men, no such bench", seven.seat(1, 1, 7), -1);
        due(22, "seven men", seven.better(1, 1), 104);
        GalleyStroke twelve = of(Texts.standing(24, 0, 0, 0, 0, 0, 0, 0, 0, 0, 12, 0, 12));
        due(22, "twelve men", twelve.better(1, 1), 910);
        due(22, "no men", new GalleyStroke().better(0, 1), -1);
        due(20, "no men", new GalleyStroke().seating(0, 1), -1);
        due(21, "no men", new GalleyStroke().seat(0, 1, 0), -1);
        GalleyStroke one = of(Texts.standing(24, 7));
        due(20, "one man", one.seating(2, 3), 3);
        due(22, "one man", one.better(2, 3), -2);
    }

    // ---- 23 to 25

    private static void everyOf(GalleyStroke x, int law, int m, int from, int most, int of) {
        due(23, "every(" + law + ", " + m + ", 0)", x.every(law, m, 0), from);
        due(23, "every(" + law + ", " + m + ", 1)", x.every(law, m, 1), most);
        due(23, "every(" + law + ", " + m + ", 2)", x.every(law, m, 2), of);
    }

    private static void every() {
        GalleyStroke x = of("parts 4; law copy = ahead; law k = own + 1;"
            + "law h = if own < 2 then 0 else if own == 2 then 3 else 2;"
            + "law t = two; law b = if bench == 0 then own else if own == bench then own else own + 1;"
            + "law s = if own == song then own else own - 1; song 1;");
        everyOf(x, 0, 1, 4, 0, 4);
        everyOf(x, 0, 3, 64, 2, 64);
        everyOf(x, 0, 4, 256, 3, 256);
        everyOf(x, 1, 2, 0, 0, 16);
        everyOf(x, 2, 1, 2, 1, 4);
        everyOf(x, 2, 2, 4, 1, 16);
        everyOf(x, 3, 3, 64, 1, 64);
        everyOf(x, 4, 4, 256, 3, 256);
        everyOf(x, 5, 2, 16, 3, 16);
        due(23, "every(-1, 1, 0)", x.every(-1, 1, 0), -1);
        due(23, "every(6, 1, 0)", x.every(6, 1, 0), -1);
        due(23, "every(0, 0, 0)", x.every(0, 0, 0), -1);
        due(23, "every(0, 5, 0)", x.every(0, 5, 0), -1);
        due(23, "every(0, 1, 3)", x.every(0, 1, 3), -1);
        due(23, "every(0, 1, -1)", x.every(0, 1, -1), -1);
        String to = "law d = if own == drum then own else own + 1;";
        everyOf(of("parts 12;" + to), 0, 1, 12, 0, 12);
        GalleyStroke drum = of("parts 12;" + to + "drum 4 0; fog 0 99;");
        everyOf(drum, 0, 1, 12, 11, 12);
        everyOf(drum, 0, 4, 20736, 11, 20736);
        GalleyStroke lag = of("parts 3; law d = if drum == 1 then own else own + 1; drum 0 1;");
        everyOf(lag, 0, 1, 0, 0, 3);
        lag.beat(1);
        everyOf(lag, 0, 1, 3, 0, 3);
        everyOf(lag, 0, 2, 0, 0, 9);
        GalleyStroke many = of("parts 13; law a = own;");
        everyOf(many, 0, 4, -2, -2, -2);
        everyOf(many, 0, 3, 2197, 0, 2197);
        due(23, "many, no such what", many.every(0, 4, 3), -1);
        everyOf(of("law a = own;"), 0, 3, 13824, 0, 13824);
    }

    private static void ramOf(GalleyStroke x, int n, int way, int a, int beat) {
        due(24, "ram(" + n + ", 0)", x.ram(n, 0), way);
        due(24, "ram(" + n + ", 1)", x.ram(n, 1), a);
        due(24, "ram(" + n + ", 2)", x.ram(n, 2), beat);
    }

    private static void ram() {
        String laws = "parts 12; law d = drum; law f = own; law copy = ahead;";
        GalleyStroke both = of(laws + "man a d 0; man b d 6; drum 3 0;");
        ramOf(both, 1, 2, 1, 0);
        ramOf(both, 60, 2, 60, 0);
        due(24, "ram(61, 0)", both.ram(61, 0), -1);
        due(24, "ram(0, 0)", both.ram(0, 0), -1);
        due(24, "ram(1, 3)", both.ram(1, 3), -1);
        due(24, "ram(1, -1)", both.ram(1, -1), -1);
        ramOf(of(laws + "man a d 0; man b f 6; drum 0 0;"), 3, 2, 3, 4);
        ramOf(of(laws + "man a d 0; man b f 6; drum 0 0; fog 2 2;"), 3, 2, 2, 4);
        ramOf(of(laws + "man a d 0; man b f 6; drum 0 0; fog 0 2;"), 3, 1, 3, 0);
        ramOf(of(laws + "man a d 0; man b copy 0; man c f 6; drum 0 0;"), 3, 3, 2, 4);
        // The drum as it is now till the new beat: b must copy a while a is still as now.
        ramOf(of(laws + "man a f 4; man b d 0; man c copy 0; man e f 4; drum 9 0;"), 4, 4, 3, 2);
        ramOf(of(laws + "man a d 0; man b d 6; drum 0 6;"), 2, 1, 2, 0);
        GalleyStroke later = of(laws + "man a d 0; man b f 6; drum 0 0; fog 3 3;");
        later.row(2);
        ramOf(later, 2, 2, 1, 4);
        due(24, "nothing happens", later.count(4), 0);
        due(24, "nothing happens", later.count(3), 2);
        GalleyStroke none = of(laws + "man a d 0;");
        due(24, "no drum", none.ram(1, 0), -2);
        due(24, "no drum, no such n", none.ram(61, 0), -1);
        none.beat(3);
        ramOf(none, 1, 1, 1, 0);
        due(24, "no men", of(laws + "drum 1 1;").ram(1, 0), -1);
    }

    private static void odds() {
        GalleyStroke x = of("parts 12; law d = drum; man a d 0; man b d 6; drum 3 0; fog 0 9;");
        due(25, "odds(1, 1, 3)", x.odds(1, 1, 3), 5);
        due(25, "odds(2, 1, 3)", x.odds(2, 1, 3), 17);
        due(25, "odds(2, 0, 3)", x.odds(2, 0, 3), 18);
        due(25, "odds(2, 3, 3)", x.odds(2, 3, 3), 9);
        due(25, "odds(1, 0, 1)", x.odds(1, 0, 1), 2);
        due(25, "odds(10, 8, 9)", x.odds(10, 8, 9), 5899826978L);
        due(25, "odds(0, 1, 3)", x.odds(0, 1, 3), -1);
        due(25, "odds(11, 1, 3)", x.odds(11, 1, 3), -1);
        due(25, "odds(1, -1, 3)", x.odds(1, -1, 3), -1);
        due(25, "odds(1, 4, 3)", x.odds(1, 4, 3), -1);
        due(25, "odds(1, 0, 0)", x.odds(1, 0, 0), -1);
        due(25, "odds(1, 1, 10)", x.odds(1, 1, 10), -1);
        due(25, "no men", new GalleyStroke().odds(1, 1, 2), -1);
        times(25, "nothing happens", x, 0, 6);
        due(25, "no drum", of(Texts.standing(24, 1, 1, 9)).odds(10, 4, 9), 2 * 3486784401L);
    }

    // ---- 26 to 30

    private static final String SUSPICIOUS = "parts 12; law copy = ahead; law d = drum; man a d 0; man b copy 0;"
        + "man c copy 0; drum 6 0;";

    private static void tellAndForget() {
        GalleyStroke x = of(SUSPICIOUS);
        due(27, "forget() of none", x.forget(), 0);
        due(26, "tell(-1, 1, true)", x.tell(-1, 1, true), -1);
        due(26, "tell(100, 1, true)", x.tell(100, 1, true), -1);
        due(26, "tell(0, 0, true)", x.tell(0, 0, true), -1);
        due(26, "tell(0, 3, true)", x.tell(0, 3, true), -1);
        due(26, "tell(0, -1, true)", x.tell(0, -1, true), -1);
        due(26, "nothing TOLD", x.count(10), 0);
        for (int i = 0; i < 20; i++) {
            due(26, "tell " + i, x.tell(i % 2 * 99, 1 + i % 2, false), i);
        }
        due(26, "tell 20", x.tell(0, 1, false), -1);
        due(26, "TOLD", x.count(10), 20);
        due(28, "suspects(0, 20)", x.suspects(0, 20), 1);
        due(27, "forget()", x.forget(), 20);
        due(27, "TOLD", x.count(10), 0);
        due(27, "suspects(0, 1)", x.suspects(0, 1), -1);
        due(26, "tell anew", x.tell(0, 1, true), 0);
        due(27, "forget()", x.forget(), 1);
    }

    private static void suspects() {
        GalleyStroke x = of(SUSPICIOUS);
        due(28, "suspects(0, 0)", x.suspects(0, 0), 1);
        due(29, "suspect(0, 0, 0)", x.suspect(0, 0, 0), 0);
        due(28, "suspects(1, 0)", x.suspects(1, 0), 3);
        int[] single = {1, 2, 4, -1};
        int[] pairs = {3, 5, 6, -1};
        for (int i = 0; i < 4; i++) {
            due(29, "suspect(1, 0, " + i + ")", x.suspect(1, 0, i), single[i]);
            due(29, "suspect(2, 0, " + i + ")", x.suspect(2, 0, i), pairs[i]);
        }
        due(29, "suspect(1, 0, -1)", x.suspect(1, 0, -1), -1);
        x.tell(1, 1, true);
        x.tell(2, 1, true);
        x.tell(2, 2, true);
        due(28, "suspects(0, 1)", x.suspects(0, 1), 1);
        due(28, "suspects(1, 1)", x.suspects(1, 1), 2);
        due(29, "suspect(1, 1, 0)", x.suspect(1, 1, 0), 2);
        due(29, "suspect(1, 1, 1)", x.suspect(1, 1, 1), 4);
        due(28, "suspects(0, 2)", x.suspects(0, 2), 0);
        due(28, "suspects(1, 2)", x.suspects(1, 2), 1);
        due(28, "suspects(2, 2)", x.suspects(2, 2), 1);
        due(29, "suspect(2, 2, 0)", x.suspect(2, 2, 0), 6);
        due(29, "suspect(0, 2, 0)", x.suspect(0, 2, 0), -1);
        due(28, "suspects(1, 3)", x.suspects(1, 3), 0);
        due(28, "suspects(1, 4)", x.suspects(1, 4), -1);
        due(28, "suspects(1, -1)", x.suspects(1, -1), -1);
        due(28, "suspects(3, 0)", x.suspects(3, 0), -1);
        due(28, "suspects(-1, 0)", x.suspects(-1, 0), -1);
        due(29, "suspect(1, 4, 0)", x.suspect(1, 4, 0), -1);
        due(29, "suspect(3, 0, 0)", x.suspect(3, 0, 0), -1);
        GalleyStroke one = of(Texts.standing(24, 1));
        due(28, "a pair of one", one.suspects(2, 0), 0);
        due(28, "one of one", one.suspects(1, 0), 1);
        due(28, "12 men", of(Texts.standing(24, 0, 0, 0, 0, 0, 0, 0, 0, 0, 0, 0, 0)).suspects(2, 0), 66);
    }

    private static void suspectsAsTold() {
        GalleyStroke x = of(SUSPICIOUS + "fog 0 1;");
        x.tell(2, 1, false);
        x.tell(3, 1, true);
        x.tell(4, 2, true);
        due(28, "FOG as told", x.suspects(0, 3), 1);
        x.row(7);
        x.change(0, 2);
        x.teach(1, 1);
        x.set(1, 9);
        x.beat(1);
        due(28, "as the text was told", x.suspects(0, 3), 1);
        due(29, "as the text was told", x.suspect(1, 3, 0), 4);
        due(28, "as the text was told", x.suspects(1, 3), 1);
        // Stroke 0 is the text's begin.
        GalleyStroke begin = of(Texts.standing(24, 0, 12));
        begin.tell(0, 1, true);
        begin.tell(99, 1, true);
        due(28, "stroke 0", begin.suspects(0, 1), 1);
        due(28, "stroke 99", begin.suspects(2, 2), 1);
    }

    private static void check() {
        GalleyStroke x = of(SUSPICIOUS);
        x.tell(2, 1, false);
        x.tell(2, 2, true);
        x.tell(2, 2, false);
        due(30, "check(1, 0, 2), alike", x.check(1, 0, 2), 1);
        due(30, "check(1, 1, 2)", x.check(1, 1, 2), 2);
        due(30, "check(1, 1, 99)", x.check(1, 1, 99), 2);
        due(30, "check(1, 1, 1)", x.check(1, 1, 1), 1);
        due(30, "check(1, 1, 0), alike", x.check(1, 1, 0), 1);
        due(30, "no SUSPECTS", x.check(1, 3, 2), -2);
        due(30, "check(1, 1, 100)", x.check(1, 1, 100), -1);
        due(30, "check(1, 1, -1)", x.check(1, 1, -1), -1);
        due(30, "check(3, 1, 1)", x.check(3, 1, 1), -1);
        due(30, "check(-1, 1, 1)", x.check(-1, 1, 1), -1);
        due(30, "check(1, 4, 1)", x.check(1, 4, 1), -1);
        due(30, "check(1, -1, 1)", x.check(1, -1, 1), -1);
        due(30, "one man", of(Texts.standing(24, 1)).check(0, 0, 0), -2);
        due(30, "one man, no such stroke", of(Texts.standing(24, 1)).check(0, 0, 100), -1);
        due(30, "two men", of(Texts.standing(24, 1, 2)).check(2, 0, 0), 1);
    }

    // ---- 31 to 33

    private static void slots() {
        GalleyStroke x = of(CREW);
        due(32, "restore(0) of nothing", x.restore(0), false);
        x.row(1);
        due(31, "hold(1)", x.hold(1), true);
        due(31, "hold(3)", x.hold(3), false);
        due(31, "hold(-1)", x.hold(-1), false);
        due(31, "SLOTS", x.count(11), 1);
        x.change(0, 1);
        x.teach(2, 0);
        x.beat(4);
        x.row(4);
        due(31, "hold(2)", x.hold(2), true);
        due(32, "restore(-1)", x.restore(-1), false);
        due(32, "restore(3)", x.restore(3), false);
        due(32, "restore(0)", x.restore(0), false);
        due(32, "nothing happens", x.count(3), 5);
        due(32, "can be undone yet", x.count(9), 5);
        for (int i = 0; i < 2; i++) {
            due(32, "restore(1)", x.restore(1), true);
            times(32, "restored", x, 10, 0, 9);
            due(32, "the man", x.bench(0, 1), 0);
            due(32, "his LAW", x.bench(0, 2), 1);
            due(32, "a LAW that was taught", x.bench(2, 2), 2);
            due(32, "the drum", x.count(4), 10);
            due(32, "the stroke", x.count(3), 1);
            due(32, "FOG of its number", x.count(12), 1);
            due(32, "nothing can be undone", x.undo(), false);
            x.row(2);
            x.set(0, 1);
        }
        due(32, "restore(2)", x.restore(2), true);
        due(32, "the man", x.bench(0, 1), 1);
        due(32, "the drum", x.count(4), 4);
        due(32, "the stroke", x.count(3), 5);
        due(31, "hold(1) anew", x.hold(1), true);
        due(31, "SLOTS", x.count(11), 2);
        x.row(1);
        due(32, "restore(1)", x.restore(1), true);
        due(32, "the stroke", x.count(3), 5);
        GalleyStroke bare = of(Texts.standing(24, 1, 2));
        bare.hold(0);
        bare.beat(5);
        bare.restore(0);
        due(32, "no drum", bare.count(4), -2);
        bare.tell(0, 1, false);
        bare.restore(0);
        due(32, "what was TOLD stays", bare.count(10), 1);
    }

    private static void count() {
        GalleyStroke x = of(CREW);
        x.row(1);
        x.tell(5, 1, false);
        x.tell(5, 2, false);
        x.hold(0);
        x.hold(2);
        Feeding.put(x, "parts");
        int[] want = {12, 3, 3, 1, 10, 3, 2, 1, 5, 1, 2, 2, 1, -1};
        for (int what = 0; what < want.length; what++) {
            due(33, "count(" + what + ")", x.count(what), want[what]);
        }
        due(33, "count(-1)", x.count(-1), -1);
        due(33, "count(MAX)", x.count(Integer.MAX_VALUE), -1);
        x.row(1);
        due(33, "FOG is over", x.count(12), 0);
    }
}
