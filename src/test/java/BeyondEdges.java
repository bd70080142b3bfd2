/** The edges of FAULT 6: what is not below PARTS, and when that is told. */
final class BeyondEdges {
    private static final String LAW = "law a = own;";

    private BeyondEdges() {
    }

    static void all() {
        edge("where a man begins (0 .. PARTS - 1)", () -> {
            Checks.times(Checks.fine("parts 3;" + LAW + "man b a 0; man c a 2;"), 0, 2);
            Checks.fault(6, "parts 3;" + LAW + "man b a ^3;");
            Checks.times(Checks.fine(LAW + "man b a 23;"), 23);
            Checks.fault(6, LAW + "man b a ^24;");
            Checks.fault(6, LAW + "man b a ^9999;");
        });
        edge("the drum (0 .. PARTS - 1)", () -> {
            Checks.due("drum", Checks.fine("parts 3; drum 0 5;").count(4), 0);
            Checks.due("drum", Checks.fine("parts 3; drum 2 5;").count(4), 2);
            Checks.fault(6, "parts 3; drum ^3 5;");
            Checks.due("drum", Checks.fine("drum 23 5;").count(4), 23);
            Checks.fault(6, "drum ^24 5;");
        });
        edge("a song (0 .. PARTS - 1)", () -> {
            Checks.due("song", Checks.fine("parts 3; song 0;").count(6), 0);
            Checks.due("song", Checks.fine("parts 3; song 2;").count(6), 2);
            Checks.fault(6, "parts 3; song ^3;");
            Checks.due("song", Checks.fine("song 23;").count(6), 23);
            Checks.fault(6, "song ^24;");
        });
        edge("by the last PARTS told", () -> {
            Checks.fine("parts 5; song 11; parts 12;");
            Checks.fault(6, "parts 12; song ^11; parts 5;");
            Checks.fine("song 4; parts 24; parts 5;");
            Checks.fault(6, "song ^5; parts 24; parts 5;");
        });
        edge("at the first INT that is so", () -> {
            Checks.fault(6, "parts 5;" + LAW + "man b a 4; man c a ^5; drum 6 0; song 7;");
            Checks.fault(6, "parts 5;" + LAW + "song 4; drum ^5 0; man c a 6; song 7;");
            Checks.fault(6, "parts 5;" + LAW + "song ^5; man c a 6; drum 7 0;");
            Checks.fault(6, "song ^11; drum 10 0; parts 10;");
            Checks.fault(6, "song 10; drum ^11 0; parts 11;");
            // One that a later one takes the place of is looked at, too.
            Checks.fault(6, "parts 5; song ^5; song 1;");
            Checks.fault(6, "parts 5; drum ^5 0; drum 1 0;");
        });
        edge("no other INT is so", () -> Checks.fine("parts 3; law a = 9999; man b a 2; drum 2 23; fog 999 999;"));
        edge("BEYOND only if there is none of all these", () -> {
            Checks.fault(1, "song 24; ^?");
            Checks.fault(2, "song 24;" + Texts.many("fog 1 1;", 4) + "^fog 1 1;");
            Checks.fault(3, "song 24;" + LAW + "law ^a = own;");
            Checks.fault(4, "song 24; man b ^a 1;");
            Checks.fault(5, "song 24; parts ^25;");
            Checks.fault(5, "drum 9999 ^24;");
        });
    }

    private static void edge(String words, Runnable test) {
        Checks.edge("Terms", words, test);
    }
}
