import java.util.Arrays;
import java.util.TreeSet;

/** Runs the edges: each is a sentence of the document that names a boundary, with a test of its own. */
final class Checks {
    private static final TreeSet<Integer> PROMISES = new TreeSet<>();
    private static int passed = 0;
    private static int failed = 0;
    private static int wrong = 0;
    private static String sentence = "";

    private Checks() {
    }

    static void edge(String where, String words, Runnable test) {
        sentence = where + ", \"" + words + "\"";
        wrong = 0;
        if (where.startsWith("Promise ")) {
            PROMISES.add(Integer.parseInt(where.substring("Promise ".length())));
        }
        try {
            test.run();
        } catch (RuntimeException e) {
            due("threw " + e, 1, 0);
        }
        if (wrong == 0) {
            passed++;
        } else {
            failed++;
        }
    }

    static void finish() {
        edge("the document", "every promise has an edge of its own", () -> due("promises", PROMISES.size(), 33));
        System.out.println(passed + " passed, " + failed + " failed");
        if (failed != 0) {
            System.exit(1);
        }
    }

    static void due(String call, long got, long want) {
        if (got != want) {
            wrong++;
            System.out.println(sentence + ": " + call + " answered " + got + ", due is " + want);
        }
    }

    static void due(String call, boolean got, boolean want) {
        due(call, got ? 1 : 0, want ? 1 : 0);
    }

    /** A new object that has read a text in which there is no FAULT. */
    static GalleyStroke fine(String text) {
        GalleyStroke x = new GalleyStroke();
        due("read() of " + text, Feeding.read(x, text), 0);
        due("place() of " + text, x.place(), -1);
        return x;
    }

    /** The text has a ^ at the place of its FAULT. */
    static void fault(int fault, String marked) {
        int place = marked.indexOf('^');
        String text = marked.substring(0, place) + marked.substring(place + 1);
        GalleyStroke x = new GalleyStroke();
        due("read() of " + text, Feeding.read(x, text), fault);
        due("place() of " + text, x.place(), place);
    }

    static void times(GalleyStroke x, int... want) {
        for (int b = 0; b < want.length; b++) {
            due("TIME on bench " + b, x.bench(b, 0), want[b]);
        }
    }

    /** All that can be asked without changing anything, but for place(): some 90 calls. */
    static long[] seen(GalleyStroke x) {
        long[] all = new long[100];
        int at = 0;
        for (int what = 0; what <= 12; what++) {
            all[at++] = x.count(what);
        }
        for (int b = 0; b < 12; b++) {
            for (int what = 0; what < 4; what++) {
                all[at++] = x.bench(b, what);
            }
        }
        for (int i = 0; i < 3; i++) {
            all[at++] = x.wave(i);
            all[at++] = x.way(i);
            all[at++] = x.round(i);
            all[at++] = x.soon(i);
            all[at++] = x.suspects(i, x.count(10));
            all[at++] = x.every(i, 1, 0);
        }
        all[at++] = x.clashes();
        all[at++] = x.still();
        all[at++] = x.rubs(7);
        all[at++] = x.ram(3, 0);
        all[at++] = x.odds(2, 1, 2);
        return all;
    }

    static void unchanged(String behind, GalleyStroke x, long[] before) {
        due("something changed behind " + behind, Arrays.equals(before, seen(x)), true);
    }
}
