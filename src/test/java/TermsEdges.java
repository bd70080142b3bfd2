/** The edges of a text: bytes, TOKENS, what tells how many of what, and which FAULT is told where. */
final class TermsEdges {
    private static final String WORDS =
        "parts law if then else man drum song fog or and not gap own ahead two bench";
    private static final String BRANCH = "if own<1 then 1 else ";
    private static final String FOUR_FOGS = Texts.many("fog 1 1;", 4);
    // 400 TOKENS: 132 songs of three and a drum of four.
    private static final String FULL = Texts.many("song 1;", 132) + "drum 1 2;";

    private TermsEdges() {
    }

    static void all() {
        tokens();
        tells();
        faults();
    }

    private static void edge(String words, Runnable test) {
        Checks.edge("Terms", words, test);
    }

    private static void fine(String text) {
        Checks.fine(text);
    }

    private static void fault(int fault, String marked) {
        Checks.fault(fault, marked);
    }

    private static void tokens() {
        edge("a TEXT has 2,000 bytes at most", TermsEdges::bytesOfText);
        edge("blanks (9, 10, 13, 32)", TermsEdges::blanks);
        edge("with blanks between or not", TermsEdges::blanksOrNot);
        edge("NAMES (letters a .. z)", TermsEdges::lettersOfName);
        edge("NAMES (.. 8 at most)", TermsEdges::lengthOfName);
        edge("NAMES that differ in a letter are two", TermsEdges::differentNames);
        edge("NAMES (.. none of the words in quotes)", TermsEdges::wordsAsNames);
        edge("INTS (1 to 4 digits)", TermsEdges::digitsOfInt);
        edge("SIGNS", TermsEdges::signs);
        edge("TOKENS, the longest that can be", TermsEdges::longestTokens);
        edge("a longer one is no TOKEN", TermsEdges::longerTokens);
        edge("all else is no TOKEN", () -> {
            for (int sign = 0; sign < 256; sign++) {
                if (sign == 9 || sign == 10 || sign == 13 || sign == 32) {
                    fine("song 1;" + (char) sign);
                } else {
                    fault(1, "song 1;^" + (char) sign);
                    fault(1, "^" + (char) sign + " song 1;");
                }
            }
        });
    }

    private static void bytesOfText() {
        String blanks = " ".repeat(1993);
        Checks.due("song of 2,000 bytes", Checks.fine(blanks + "song 7;").count(6), 7);
        Checks.due("song of 1,999 bytes", Checks.fine(blanks.substring(1) + "song 7;").count(6), 7);
        fault(1, blanks + "song 7 ^");
        fault(1, blanks + "song 7^?");
        GalleyStroke x = new GalleyStroke();
        Feeding.put(x, blanks + "song 7;");
        Checks.due("feed() behind 2,000 bytes", x.feed(0, 0, 0, 0, 0), -1);
        Checks.due("read() of the 2,000", x.read(), 0);
    }

    private static void blanks() {
        for (int sign = 0; sign < 256; sign++) {
            String text = "parts" + (char) sign + "12;";
            if (sign == 9 || sign == 10 || sign == 13 || sign == 32 || sign == '0') {
                Checks.due("PARTS behind byte " + sign, Checks.fine(text).count(0), 12);
            } else if (sign >= 'a' && sign <= 'z') {
                fault(1, "^" + text);
            } else {
                boolean digit = sign >= '1' && sign <= '9';
                fault(digit ? 5 : 1, text.substring(0, 5) + "^" + text.substring(5));
            }
        }
    }

    private static void blanksOrNot() {
        fine("parts12;law a=if own<=3then 1else(own)-1;man b a 5;drum3 4;song5;fog6 7;");
        fine("\t\n\r parts \t\n\r 12 \t\n\r ; \t\n\r ");
        fine(" ");
        fault(1, "^lawa=own;");
        fault(1, "law a=if own<3^thenown;");
        fault(1, "parts 1 ^2;");
        fault(1, "law a = if own < ^= 3 then 1 else 2;");
        fault(1, "law a = if own ^= = 3 then 1 else 2;");
        fault(1, "law a = if own ^! = 3 then 1 else 2;");
    }

    private static void lettersOfName() {
        fine("law az = own; law za = own; law zzzzzzzz = own; law aaaaaaaa = own;");
        for (char sign : new char[] {'`', '{', 'A', 'Z', '@', '[', '_', '$', 225, 250}) {
            fault(1, "law ^" + sign + " = own;");
            fault(1, "law a^" + sign + " = own;");
        }
        fault(1, "law a^1 = own;");
        fault(1, "law ^1a = own;");
        fault(1, "law ^= own;");
    }

    private static void lengthOfName() {
        fine("law a = own; man b a 1;");
        fine("law abcdefgh = own; man bcdefghi abcdefgh 1;");
        fine("law abcdefgh = own; law abcdefgi = own; law bbcdefgh = own; law abcdefg = own;");
        fault(1, "law ^abcdefghi = own;");
        fault(1, "law a = own; man ^abcdefghi a 1;");
        fault(1, "law a = own; man b ^abcdefghi 1;");
        fault(1, "law ^" + "z".repeat(1000) + " = own;");
        fault(1, "^partsparts 3;");
    }

    private static void differentNames() {
        for (char last = 'a'; last <= 'z'; last++) {
            for (char first = 'a'; first <= 'z'; first++) {
                String two = "" + first + last;
                if (!two.equals("if") && !two.equals("or")) {
                    fine("law " + last + " = own; law " + two + " = own;" + (first == last ? ""
                        : "law x" + two + " = own; law x" + last + first + " = own;"));
                }
            }
        }
    }

    private static void wordsAsNames() {
        for (String word : WORDS.split(" ")) {
            fault(1, "law ^" + word + " = own;");
            fault(1, "law a = own; man ^" + word + " a 1;");
            fault(1, "law a = own; man b ^" + word + " 1;");
            fine("law " + word + "s = own;");
            fine("law x" + word + " = own;");
            fine("law " + word.substring(1) + " = own;");
            fine("law " + word.substring(0, word.length() - 1) + " = own;");
        }
    }

    private static void digitsOfInt() {
        Checks.due("song 7", Checks.fine("song 7;").count(6), 7);
        Checks.due("song 0007", Checks.fine("song 0007;").count(6), 7);
        fault(1, "song ^00007;");
        fault(6, "song ^9999;");
        fault(1, "song ^10000;");
        fault(1, "song ^" + "0".repeat(1000) + ";");
        fault(1, "song ^;");
        fault(1, "song ^/;");
        fault(1, "song ^:;");
        fault(1, "song 7^:;");
        fault(1, "song ^-1;");
        fine("law a = 9999;");
        fault(1, "law a = ^10000;");
        fault(1, "law a = ^00000;");
    }

    private static void signs() {
        for (int sign = 0; sign < 256; sign++) {
            String text = "law a = own" + (char) sign + "1;";
            int at = 11;
            if ("+-*/".indexOf(sign) >= 0) {
                fine(text);
                continue;
            }
            if (sign >= 'a' && sign <= 'z') {
                at = 8;
            } else if (" \t\n\r;".indexOf(sign) >= 0) {
                at = 12;
            }
            fault(1, text.substring(0, at) + "^" + text.substring(at));
        }
        for (String sign : new String[] {"==", "!=", "<", "<="}) {
            fine("law a = if own" + sign + "1 then 1 else 2;");
        }
        for (String sign : new String[] {"=", "!", ">", ">=", "<>", "=<", "=!", "&", ".", "%"}) {
            int at = sign.equals("<>") ? 15 : 14;
            String text = "law a = if own" + sign + "1 then 1 else 2;";
            fault(1, text.substring(0, at) + "^" + text.substring(at));
        }
    }

    private static void longestTokens() {
        fault(1, "law a ^==own;");
        fault(1, "law a = if own ==^= 3 then 1 else 2;");
        fault(1, "law a = if own <=^= 3 then 1 else 2;");
        fault(1, "law a = if own !=^= 3 then 1 else 2;");
        fault(1, "law a = if own <^<= 3 then 1 else 2;");
        fault(1, "law a = if own ^=<= 3 then 1 else 2;");
        fine("law a = if own<=3 then 1 else if own<3 then 2 else if own==3 then 3 else 4;");
        Checks.due("12 is one INT", Checks.fine("parts 12;").count(0), 12);
        fault(1, "drum 12^;");
    }

    private static void longerTokens() {
        // Cut behind its 4th digit or its 8th letter each of these would be a text.
        fault(1, "drum ^00012;");
        fault(1, "fog ^00012;");
        fault(1, "law a = own; man ^bbbbbbbba 1;");
    }

    private static void tells() {
        edge("text: {TELL}: none, one, many", () -> {
            fine("");
            fine("song 1;");
            fine(FULL);
            fault(1, "^;");
            fault(1, "song 1;^;");
        });
        edge("a text ends behind a TELL alone", TermsEdges::endOfText);
        edge("{'if' COND 'then' E 'else'} E", TermsEdges::branches);
        edge("COND, ALL, LIT", TermsEdges::conditions);
        edge("E, PART, UNIT", TermsEdges::units);
        edge("PARTS of a stroke: 3 .. 24", () -> {
            fault(5, "parts ^0;");
            fault(5, "parts ^2;");
            Checks.due("PARTS", Checks.fine("parts 3;").count(0), 3);
            Checks.due("PARTS", Checks.fine("parts 24;").count(0), 24);
            fault(5, "parts ^25;");
            fault(5, "parts ^9999;");
        });
        edge("24 if not told; the last one told", () -> {
            Checks.due("PARTS", Checks.fine("song 1;").count(0), 24);
            Checks.due("PARTS", Checks.fine("parts 3; parts 24;").count(0), 24);
            Checks.due("PARTS", Checks.fine("parts 24; song 2; parts 3;").count(0), 3);
            fault(5, "parts ^2; parts 3;");
            fault(5, "parts 3; parts ^25;");
        });
        edge("LAWS, 6 at most, numbered from 0 on as they stand", TermsEdges::sixLaws);
        edge("MEN, 12 at most, man k sits on BENCH k", TermsEdges::twelveMen);
        edge("the drum's LAG (0 .. 23)", () -> {
            Checks.due("LAG", Checks.fine("drum 0 0;").count(5), 0);
            Checks.due("LAG", Checks.fine("parts 3; drum 0 23;").count(5), 23);
            fault(5, "drum 0 ^24;");
            fault(5, "parts 3; drum 0 ^9999;");
        });
        edge("FOG: from a stroke to one (0 .. 999, from to not below from)", () -> {
            fine("fog 0 0; fog 999 999; fog 0 999; fog 0999 999;");
            fault(5, "fog 0 ^1000;");
            fault(5, "fog ^1000 1000;");
            fault(5, "fog ^1000 5;");
            fault(5, "fog ^9999 9999;");
            fine("fog 7 7; fog 6 7;");
            fault(5, "fog 7 ^6;");
            fault(5, "fog 1 ^0;");
            fault(5, "fog 999 ^998;");
        });
        edge("FOG: 4 at most", () -> {
            Checks.due("FOGS", Checks.fine("").count(7), 0);
            Checks.due("FOGS", Checks.fine(FOUR_FOGS).count(7), 4);
            fault(2, FOUR_FOGS + "^fog 1 1;");
            fault(2, FOUR_FOGS + "song 1; ^fog");
            fine(FOUR_FOGS + "song 1;");
        });
        edge("of several drums, songs the last one told", () -> {
            GalleyStroke x = Checks.fine("drum 3 4; song 1; drum 5 6; drum 0 7; song 2; song 0;");
            Checks.due("drum", x.count(4), 0);
            Checks.due("LAG", x.count(5), 7);
            Checks.due("song", x.count(6), 0);
        });
    }

    private static void endOfText() {
        String[] tokens = ("parts 12 ; law a = if not own == 3 and ahead != 2 or two < 1 then drum + bench else"
            + " if song <= 4 then gap ( 1 , 2 ) else ( own - 1 ) * 2 / 3 ; man b a 5 ; drum 1 2 ; song 3 ;"
            + " fog 0 1 ;").split(" ");
        StringBuilder text = new StringBuilder();
        for (int i = 0; i < tokens.length; i++) {
            fault(1, text + "^?");
            if (i == 0 || tokens[i - 1].equals(";")) {
                fine(text.toString());
            } else {
                fault(1, text + "^");
            }
            text.append(tokens[i]).append(' ');
        }
        fine(text.toString());
    }

    private static void branches() {
        fine("law a = 1;");
        fine("law a = " + BRANCH + "1;");
        fault(1, "law a = if own < 1 then 1^;");
        fault(1, "law a = if own < 1 then ^if own < 1 then 1 else 2 else 3;");
        fault(1, "law a = (^if own < 1 then 1 else 2);");
        fault(1, "law a = if own < 1 then 1 else ^;");
        fault(1, "law a = if own < 1 ^else 2;");
        fault(1, "law a = 1 ^else 2;");
        fault(1, "law a = ^then 2;");
    }

    private static void conditions() {
        fine("law a = if not not not own < 1 then 1 else 2;");
        fine("law a = if own < 1 and not own < 1 or not own < 1 and own < 1 then 1 else 2;");
        fault(1, "law a = if ^then 1 else 2;");
        fault(1, "law a = if own ^then 1 else 2;");
        fault(1, "law a = if own ^and own < 1 then 1 else 2;");
        fault(1, "law a = if ^and own < 1 then 1 else 2;");
        fault(1, "law a = if own < 1 and ^or own < 1 then 1 else 2;");
        fault(1, "law a = if own < 1 or ^then 1 else 2;");
        fault(1, "law a = if own < 1 ^not own < 1 then 1 else 2;");
        fault(1, "law a = if not ^then 1 else 2;");
        fault(1, "law a = if own < 1 ^< 2 then 1 else 2;");
        fault(1, "law a = if (own ^< 1) then 1 else 2;");
        fault(1, "law a = if (^not own < 1) then 1 else 2;");
        fault(1, "law a = if own < ^not 1 then 1 else 2;");
    }

    private static void units() {
        fine("law a = own + ahead - two * drum / bench + song * 3 - gap(own, 1) + (2);");
        fault(1, "law a = ^-1;");
        fault(1, "law a = ^+ 1;");
        fault(1, "law a = own + ^;");
        fault(1, "law a = own + ^- 1;");
        fault(1, "law a = own * ^/ 1;");
        fault(1, "law a = own ^1;");
        fault(1, "law a = (^);");
        fault(1, "law a = (own^;");
        fault(1, "law a = own^);");
        fault(1, "law a = (own ^, 1);");
        fault(1, "law a = gap ^own, 1);");
        fault(1, "law a = gap(^, 1);");
        fault(1, "law a = gap(own^);");
        fault(1, "law a = gap(own, ^);");
        fault(1, "law a = gap(own, 1 ^, 2);");
        fault(1, "law a = gap((own ^, 1));");
        fault(1, "law a = ^a;");
    }

    private static void sixLaws() {
        String six = "law p = own + 1; law q = own + 2; law r = own + 3; law s = own + 4; law t = own + 5;"
            + "law u = own + 6;";
        GalleyStroke x = Checks.fine(six + "man a p 0; man b q 0; man c r 0; man d s 0; man e t 0; man f u 0;");
        Checks.due("LAWS", x.count(1), 6);
        for (int b = 0; b < 6; b++) {
            Checks.due("LAW on bench " + b, x.bench(b, 2), b);
        }
        x.row(1);
        Checks.times(x, 1, 2, 3, 4, 5, 6);
        fault(2, six + "^law v = own;");
        fault(2, six + "song 1; ^law");
        fine(six + "song 1;");
        Checks.due("LAWS", Checks.fine("").count(1), 0);
        Checks.due("LAWS", Checks.fine(Texts.many("law # = own;", 5)).count(1), 5);
    }

    private static void twelveMen() {
        int[] begins = {0, 1, 2, 3, 4, 5, 6, 7, 8, 9, 10, 23};
        String twelve = "law x = own;" + Texts.men("x", begins);
        GalleyStroke x = Checks.fine(twelve);
        Checks.due("MEN", x.count(2), 12);
        Checks.times(x, begins);
        for (int b = 0; b < 12; b++) {
            Checks.due("man on bench " + b, x.bench(b, 1), b);
        }
        Checks.due("bench 12", x.bench(12, 1), -1);
        fault(2, twelve + "^man m x 1;");
        fault(2, twelve + "song 1; ^man");
        fine(twelve + "song 1;");
        Checks.due("MEN", Checks.fine("law x = own;").count(2), 0);
        Checks.due("MEN", Checks.fine(Texts.standing(24, 1, 2, 3, 4, 5, 6, 7, 8, 9, 10, 11)).count(2), 11);
    }

    private static void faults() {
        edge("FAULTS of a text, the first by its place", TermsEdges::firstByPlace);
        edge("(the text's end: its length)", () -> {
            fault(1, "parts^");
            fault(1, "parts ^");
            fault(1, "parts 12^");
            fault(1, "parts 12 \n\t\r ^");
            fault(1, "law a = own^");
        });
        edge("of one place the least", TermsEdges::leastOfOnePlace);
        edge("ROOM: a 401st TOKEN", () -> {
            fine(Texts.many("song 1;", 133));
            fine(FULL);
            fine(FULL + " \n ");
            fault(2, FULL + "^song 1;");
            fault(2, FULL + " ^law");
            fault(2, Texts.many("song 1;", 133) + "song ^1;");
            fault(1, Texts.many("song 1;", 133) + "song^");
            fault(1, Texts.many("song 1;", 132) + "drum 1 2^");
            fault(2, Texts.many("song 1;", 132) + "law a = own ^+ 1;");
        });
        edge("ROOM: a 9th if of a LAW (at it)", () -> {
            fine("law a = " + Texts.many(BRANCH, 8) + "2;");
            fault(2, "law a = " + Texts.many(BRANCH, 8) + "^" + BRANCH + "2;");
            fault(2, "law a = " + Texts.many(BRANCH, 8) + "^if");
            fine("law a = " + Texts.many(BRANCH, 8) + "2; law b = " + Texts.many(BRANCH, 8) + "2;");
            fault(2, "law a = " + Texts.many(BRANCH, 8) + "2; law b = " + Texts.many(BRANCH, 8) + "^if");
        });
        edge("ROOM: a 7th ( within one another (at it; that of gap counts)", TermsEdges::brackets);
        edge("TWICE, NAME, WRONG only if there is no SYNTAX, no ROOM", () -> {
            fault(1, "parts 2; parts^");
            fault(1, "law a = own; law a = own; ^?");
            fault(1, "man b c 1; song ^;");
            fault(2, "parts 2;" + FOUR_FOGS + "^fog 1 1;");
            fault(2, "man b c 1; law a = " + Texts.many(BRANCH, 8) + "^" + BRANCH + "2;");
            fault(2, "drum 1 99;" + Texts.many("law a = own;", 6) + "^law");
        });
        edge("TWICE: a NAME told already (LAWS and MEN together)", TermsEdges::twice);
        edge("NAME: no LAW told ahead", TermsEdges::noLaw);
        edge("a text with a FAULT changes nothing but the tape", TermsEdges::faultChangesNothing);
        edge("else it is in place of the one ahead", TermsEdges::textInPlace);
    }

    private static void firstByPlace() {
        fault(1, "parts ^;" + Texts.many("fog 1 1;", 5));
        fault(2, FOUR_FOGS + "^fog 1 1; parts ;");
        fault(1, "song ^; song ;");
        fault(2, "law a = " + Texts.many(BRANCH, 8) + "^" + BRANCH + "(((((((1)))))));");
        fault(3, "law a = own; law ^a = own; man b c 1; parts 2;");
        fault(4, "law a = own; man b ^c 1; law a = own; parts 2;");
        fault(5, "parts ^2; law a = own; law a = own; man b c 1;");
        fault(3, "law a = own; law ^a = own; law a = own;");
        fault(4, "man b ^c 1; man d e 1;");
        fault(5, "drum 1 ^24; parts 2; fog 5 4;");
        fault(5, "fog 5 ^4; drum 1 24; parts 2;");
        fault(3, "law a = own; man ^a c 1;");
        fault(1, "^?");
    }

    private static void leastOfOnePlace() {
        // The 401st TOKEN goes on with no text, too.
        fault(1, FULL + "^own");
        fault(1, FULL + "^1");
        fault(1, FULL + "^?");
        fault(1, FULL + "^abcdefghi");
        fault(1, Texts.many("song 1;", 133) + "song ^;");
        // A 7th ( where none can be.
        fault(1, "law a = ((((((1^(2))))))));");
        fault(2, "law a = ((((((1+^(2))))))));");
        // A word of which there is no room, where it can't be.
        fault(1, Texts.many("law # = own;", 6) + "song ^law");
        fault(1, FOUR_FOGS + "song 1 ^fog");
        fault(1, "law a = " + Texts.many(BRANCH, 8) + "1 ^if");
    }

    private static void brackets() {
        fine("law a = ((((((1))))));");
        fault(2, "law a = ((((((^(1)))))));");
        fault(2, "law a = ((((((^(");
        fine("law a = ((((((1)))))) + ((((((1))))));");
        fault(2, "law a = ((((((1)))))) + ((((((^(1)))))));");
        fine("law a = ((((((1) + (1)))))) ;");
        fine("law a = gap(gap(gap(gap(gap(gap(1,1),1),1),1),1),1);");
        fault(2, "law a = gap(gap(gap(gap(gap(gap(gap^(1,1),1),1),1),1),1),1);");
        fine("law a = gap(1,gap(1,gap(1,gap(1,gap(1,gap(1,1))))));");
        fault(2, "law a = gap(1,gap(1,gap(1,gap(1,gap(1,gap(1,^(1)))))));");
        fault(2, "law a = (((((gap(1, ^(2)))))));");
        fault(1, "law a = ((((((gap ^1");
        fine("law a = if ((((((own)))))) < ((((((1)))))) then ((((((1)))))) else ((((((2))))));");
        fault(2, "law a = if ((((((^(own))))))) < 1 then 1 else 2;");
        fault(2, "law a = if 1 < ((((((^(own))))))) then 1 else 2;");
        fault(2, "law a = if 1 < 1 then ((((((^(own))))))) else 2;");
        fault(2, "law a = if 1 < 1 then 1 else ((((((^(own)))))));");
    }

    private static void twice() {
        fault(3, "law a = own; law ^a = own;");
        fault(3, "law a = own; man ^a a 1;");
        fault(3, "law a = own; man b a 1; man ^b a 2;");
        fault(3, "law a = own; man b a 1; law ^b = own;");
        fine("law a = own; man b a 1; man c a 2; law d = own;");
        String names = Texts.many("law # = own;", 6) + Texts.many("man x# a 1;", 11);
        fine(names + "man z a 1;");
        fault(3, names + "man ^a a 1;");
        fault(3, names + "man ^f a 1;");
        fault(3, names + "man ^xa a 1;");
        fault(3, names + "man ^xk a 1;");
    }

    private static void noLaw() {
        fine("law a = own; man b a 1;");
        fault(4, "man b ^a 1; law a = own;");
        fault(4, "man b ^a 1;");
        fault(4, "law a = own; man b ^b 1;");
        fault(4, "law a = own; man b a 1; man c ^b 1;");
        fault(4, "law a = own; man b ^aa 1;");
        String six = Texts.many("law # = own;", 6);
        Checks.due("the first LAW", Checks.fine(six + "man x a 1;").bench(0, 2), 0);
        Checks.due("the last LAW", Checks.fine(six + "man x f 1;").bench(0, 2), 5);
        fault(4, six + "man x ^g 1;");
    }

    private static void faultChangesNothing() {
        String[] texts = {"parts 5; ?", Texts.many("fog 0 9;", 5), "law a = own + 3; law a = own;",
            "parts 5; law z = own; man b c 1;", "parts 5; song 4; drum 3 24;", "parts 5; drum 1 1; song 5;"};
        for (int i = 0; i < texts.length; i++) {
            GalleyStroke x = Checks.fine("parts 12; law copy = ahead; law beat = drum; man a beat 0; man b copy 3;"
                + "drum 10 3; song 2; fog 1 1;");
            x.hold(2);
            x.row(3);
            x.change(0, 1);
            x.teach(0, 1);
            x.beat(5);
            x.tell(1, 1, true);
            long[] before = Checks.seen(x);
            Checks.due("read() of " + texts[i], Feeding.read(x, texts[i]), i + 1);
            Checks.due("bytes on the tape", x.count(8), 0);
            Checks.unchanged("FAULT " + (i + 1), x, before);
            Checks.due("undo()", x.undo(), true);
            Checks.times(x, 10, 10);
            x.row(1);
            Checks.times(x, 5, 8);
            Checks.due("restore(2)", x.restore(2), true);
            Checks.times(x, 0, 3);
        }
    }

    private static void textInPlace() {
        GalleyStroke x = Checks.fine("parts 12; law a = own + 1; law b = drum; man c b 7; man d a 8; drum 3 4; song 5;"
            + "fog 0 9;");
        x.row(4);
        x.change(0, 1);
        x.teach(0, 1);
        x.beat(9);
        x.tell(0, 1, true);
        x.hold(0);
        x.hold(1);
        x.hold(2);
        Checks.due("read()", Feeding.read(x, "law k = own + 2; man z k 4; man y k 5; man u k 6;"), 0);
        int[] counts = {24, 1, 3, 0, -2, 0, -2, 0, 0, 0, 0, 0, 0};
        for (int what = 0; what < counts.length; what++) {
            Checks.due("count(" + what + ")", x.count(what), counts[what]);
        }
        for (int b = 0; b < 3; b++) {
            Checks.due("TIME", x.bench(b, 0), 4 + b);
            Checks.due("man", x.bench(b, 1), b);
            Checks.due("LAW", x.bench(b, 2), 0);
            Checks.due("restore", x.restore(b), false);
        }
        Checks.due("undo()", x.undo(), false);
        Checks.due("suspects by one", x.suspects(0, 1), -1);
        x.row(1);
        Checks.times(x, 6, 7, 8);
    }
}
