import java.util.function.IntUnaryOperator;

/** What the tests of the document's edges share; each test works on objects of its own. */
abstract class Edge {
    static final int NONE = -1, UNKNOWN = -1000000001, OUTSIDE = -1000000002, NOT = -1000000003, FULL = -1000000004;
    static final int MIN = Integer.MIN_VALUE, MAX = Integer.MAX_VALUE;

    private final StringBuilder wrong = new StringBuilder();
    private int asked = 0;

    /** What was not as due, or nothing. */
    final String wrong() {
        return asked == 0 ? "\n  asks nothing" : wrong.toString();
    }

    final void due(String call, int got, int want) {
        asked++;
        if (got != want) wrong.append("\n  ").append(call).append(" answered ").append(got).append(", due is ").append(want);
    }

    final void like(String what, String got, String want) {
        asked++;
        if (!got.equals(want)) wrong.append("\n  ").append(what).append(" is\n    ").append(got).append(", due is\n    ").append(want);
    }

    static void fed(MusicWalls x, String text) {
        for (int i = 0; i < text.length(); i++) x.feed(text.charAt(i));
    }

    static int housed(MusicWalls x, String text) {
        fed(x, text);
        return x.house();
    }

    final MusicWalls of(String text) {
        MusicWalls x = new MusicWalls();
        if (housed(x, text) < 0) due("fault() of " + text, x.fault(), NONE);
        return x;
    }

    final void fine(String text, int rooms) {
        MusicWalls x = new MusicWalls();
        due("house() of '" + text + "'", housed(x, text), rooms);
        due("fault() of '" + text + "'", x.fault(), NONE);
    }

    final void faulty(String text, int number, int place) {
        MusicWalls x = new MusicWalls();
        due("house() of '" + text + "'", housed(x, text), -10 - number);
        due("fault() of '" + text + "'", x.fault(), place);
    }

    /** What each number from 0 to most is answered, as a text. */
    static String answers(int most, IntUnaryOperator call) {
        StringBuilder t = new StringBuilder();
        for (int i = 0; i <= most; i++) t.append(i == 0 ? "" : " ").append(call.applyAsInt(i));
        return t.toString();
    }

    static void times(int n, Runnable call) {
        for (int i = 0; i < n; i++) call.run();
    }

    static int seedOf(MusicWalls x) {
        int is = x.seed(0);
        x.seed(is);
        return is;
    }

    /** What THE SEED becomes by a DRAW. */
    static int drawn(int seed) {
        return (int) ((seed * 1103515245L + 12345L) % 2147483648L);
    }

    /** The least THE SEED by which the first DRAWS, of these numbers, are those. */
    static int seedFor(int[] of, int[] are) {
        for (int v = 0; ; v++) {
            int seed = v, alike = 0;
            for (int i = 0; i < of.length; i++) {
                seed = drawn(seed);
                if (seed / 65536 % of[i] == are[i]) alike++;
            }
            if (alike == of.length) return v;
        }
    }

    /** All that section 2 of the document tells of, as the calls answer it. */
    static String section2(MusicWalls x) {
        StringBuilder t = new StringBuilder("HOURS " + x.told(5) + " MET " + x.told(6) + " LOG " + x.told(7) + ":");
        for (int i = 0; i < x.told(7); i++) t.append(" ").append(x.logged(i, 0)).append(x.logged(i, 1)).append(x.logged(i, 2));
        t.append(" LIFTED ").append(x.told(9)).append(":");
        for (int r = 0; r < x.told(1); r++) t.append(" ").append(x.room(r, 1));
        for (int p = 0; p < x.told(2); p++) {
            t.append(" PERSON ").append(x.person(p, 0)).append(" ").append(x.person(p, 1)).append(" ").append(x.person(p, 2));
        }
        return t.toString();
    }

    /** All that can be asked of a small HOUSE; some 100 calls. */
    static String all(MusicWalls x) {
        StringBuilder t = new StringBuilder(section2(x)).append(" told");
        for (int what = 0; what < 14; what++) t.append(" ").append(x.told(what));
        for (int r = 0; r < x.told(1); r++) {
            t.append(" ROOM ").append(x.room(r, 0)).append(" ").append(x.room(r, 4)).append(":");
            for (int b = 0; b < x.room(r, 0); b++) t.append(" ").append(x.bar(r, b, 0)).append(x.bar(r, b, 1)).append(x.bar(r, b, 2));
        }
        for (int w = 0; w < x.told(3); w++) {
            t.append(" WALL ").append(x.wall(w, 0)).append(x.wall(w, 1)).append(x.wall(w, 2)).append(x.wall(w, 3));
        }
        t.append(" SEEN ").append(x.places(0)).append(" ").append(x.places(2)).append(" ").append(x.lookAt());
        return t.append(" WRONG ").append(x.judge()).append(" SEED ").append(seedOf(x)).append(" fault ").append(x.fault()).toString();
    }
}
