import java.math.BigInteger;

/** The edges of texts that are as full as they can be, and of texts that are read one behind the other. */
final class FullEdges {
    private static final String BRANCH = "if own<1 then 1 else ";
    private static final String RICH = "parts 12; law a = own + 1; law b = drum; law e = song; man f e 7; man g b 8;"
        + "man h a 9; drum 3 4; song 5; fog 0 9; fog 20 30;";

    private FullEdges() {
    }

    static void all() {
        Checks.edge("Terms", "a text with all that there is room for", FullEdges::fullText);
        Checks.edge("Terms", "a LAW of all the TOKENS of a text", FullEdges::longLaws);
        Checks.edge("Terms", "( within one another, with all that waits for them", FullEdges::deepLaws);
        Checks.edge("Terms", "it is in place of the one ahead, however many there were", FullEdges::oneBehindTheOther);
        Checks.edge("Terms", "a NAME told already, no LAW told ahead: of this text alone", FullEdges::namesOfOneText);
        Checks.edge("Promise 4", "the tape is read, as often as one likes", FullEdges::oftenRead);
    }

    private static void fullText() {
        // 6 laws of 8 ifs, 6 men and a song: 399 TOKENS.
        GalleyStroke ifs = Checks.fine(Texts.many("law # = " + BRANCH.repeat(8) + "bench;", 6)
            + "man u a 0; man v b 1; man w c 2; man x d 3; man y e 4; man z f 5; song 1;");
        ifs.row(1);
        Checks.times(ifs, 1, 1, 2, 3, 4, 5);
        GalleyStroke all = Checks.fine("parts 24;" + Texts.many("law lawlaww# = own + 1;", 6)
            + Texts.many("man manmann# lawlawwf 23;", 12) + "drum 23 23; song 23;" + Texts.many("fog 0 999;", 4));
        int[] counts = {24, 6, 12, 0, 23, 23, 23, 4, 0, 0, 0, 0, 1};
        for (int what = 0; what < counts.length; what++) {
            Checks.due("count(" + what + ")", all.count(what), counts[what]);
        }
        for (int b = 0; b < 12; b++) {
            Checks.due("LAW on bench " + b, all.bench(b, 2), 5);
        }
        all.row(1);
        Checks.times(all, 0, 0, 0, 0, 0, 0, 0, 0, 0, 0, 0, 0);
    }

    private static void longLaw(String law, int own, int want) {
        GalleyStroke x = Checks.fine("law a = " + law + ";man b a " + own + ";");
        x.row(1);
        Checks.times(x, want);
    }

    private static void longLaws() {
        // The man takes 5 TOKENS, the LAW's frame 4: 391 are left.
        longLaw("own" + "+own".repeat(195), 5, 196 * 5 % 24);
        Checks.fault(2, "law a = own" + "+own".repeat(198) + "^+own");
        longLaw("own" + "-1".repeat(195), 5, Math.floorMod(5 - 195, 24));
        longLaw("own" + "*5".repeat(195), 1, Math.floorMod(BigInteger.valueOf(5).pow(195).intValue(), 24));
        longLaw("if " + "not ".repeat(383) + "own<1 then 7 else 8", 5, 7);
        longLaw("if " + "not ".repeat(382) + "own<1 then 7 else 8", 5, 8);
        longLaw("if own<1" + " or own<1".repeat(95) + " then 7 else 8", 0, 7);
        longLaw("if own<1" + " or own<1".repeat(94) + " or own==1 then 7 else 8", 1, 7);
        longLaw("if own<1" + " or own<1".repeat(95) + " then 7 else 8", 1, 8);
        longLaw("if own<1" + " and own<1".repeat(95) + " then 7 else 8", 0, 7);
        longLaw("if own<1" + " and own<1".repeat(94) + " and own==1 then 7 else 8", 0, 8);
        longLaw("if own<1" + " and own<1".repeat(95) + " then 7 else 8", 1, 8);
        // Each of 8 ifs ends in the same last E.
        longLaw("if own<1 and own<1 or own<1 then 1 else ".repeat(8) + "9", 5, 9);
    }

    private static void deepLaws() {
        // gap(1, 1 + 1 * x) is x the other way round: 5 times, and 6 times.
        String five = "gap(1,1+1*".repeat(5) + "own" + ")".repeat(5);
        String six = "gap(1,1+1*".repeat(6) + "own" + ")".repeat(6);
        longLaw(five, 5, 19);
        longLaw(five, 20, 4);
        longLaw(six + "+1", 5, 6);
        longLaw(six + "+1", 20, 21);
        longLaw("if 1+1*" + five + "==1+1*" + five + " then 3 else 4", 5, 3);
        longLaw("20-(20-(20-(20-(20-(20-own)))))", 7, 7);
        longLaw("20-(20-(20-(20-(20-own))))", 7, 13);
        longLaw("2*(2*(2*(2*(2*(2*own)))))+1", 1, 64 % 24 + 1);
    }

    private static void oneBehindTheOther() {
        GalleyStroke x = new GalleyStroke();
        long[] empty = Checks.seen(x);
        Checks.due("read()", Feeding.read(x, RICH), 0);
        Checks.due("read()", Feeding.read(x, RICH), 0);
        Checks.due("read() of nothing", x.read(), 0);
        Checks.unchanged("two texts and an empty one", x, empty);
        GalleyStroke y = Checks.fine(RICH);
        Checks.due("read() of a FAULT", Feeding.read(y, RICH + "song 12;"), 6);
        Checks.due("read() of a FAULT", Feeding.read(y, RICH + "?"), 1);
        Checks.due("read() of little", Feeding.read(y, "law k = own + 2; man z k 4;"), 0);
        int[] counts = {24, 1, 1, 0, -2, 0, -2, 0, 0, 0, 0, 0, 0};
        for (int what = 0; what < counts.length; what++) {
            Checks.due("count(" + what + ")", y.count(what), counts[what]);
        }
        Checks.due("LAW", y.bench(0, 2), 0);
        Checks.due("bench 1", y.bench(1, 0), -1);
        y.row(1);
        Checks.times(y, 6);
        Checks.due("clashes()", y.clashes(), 0);
    }

    private static void namesOfOneText() {
        GalleyStroke x = Checks.fine(RICH);
        for (int i = 0; i < 3; i++) {
            Checks.due("the same text again", Feeding.read(x, RICH), 0);
        }
        Checks.due("a LAW of the text ahead", Feeding.read(x, "law c = own; man d e 1;"), 4);
        Checks.due("place()", x.place(), 19);
        Checks.due("a LAW of the text ahead", Feeding.read(x, "man d a 1;"), 4);
        Checks.due("other NAMES", Feeding.read(x, "law f = own; man a f 1; man b f 2;"), 0);
        Checks.due("LAW", x.bench(1, 2), 0);
    }

    private static void oftenRead() {
        GalleyStroke x = new GalleyStroke();
        String law = "law a = own" + "+own".repeat(30) + ";man b a 1;";
        for (int i = 0; i < 40; i++) {
            Checks.due("read() " + i, Feeding.read(x, law), 0);
            Checks.due("row(1)", x.row(1), 1);
            Checks.times(x, 7);
        }
    }
}
