/** Every short text of some signs behind some beginnings: its ROOMS or FAULT, the FAULT's place and what is told then are Reference's. */
public final class ShortTextTests {
    private static final int CALLS = 512;
    /** Beginning, the signs that may follow, how many of them at most. */
    private static final String[][] KINDS = {
        {"", "dru01; ,", "5"},
        {"d", "019 ;:/", "5"},
        {"d0;r1,2;r3;", "drupwx0;", "4"},
        {"d0;r", "109 ,;", "5"},
        {"d0;r1,1,1,1,1,1,1,1,1,1,1", "19 ,;r", "5"},
        {"d0;r1;r1;r1;r1;r1;", "r19;, u", "5"},
        {"d0;r1,2;u", "01 ,;", "6"},
        {"d0;r1,2;r3;u0 4,5;u", "01 ,;", "5"},
        {"d0;r1,2;r3;p", "012 ;", "6"},
        {"d0;r1;p0 0 0;p0 0 0;p0 0 0;p0 0 0;p0 0 0", "p0 ;d", "4"},
        {"d0;r1,2;r3;w", "01 2;", "7"},
        {"d0;r1,2;r3;w1 0 0", "01 2;", "4"},
        {"d0;r1,2;r3;w0 1 1", "01 ;d", "5"},
        {"d0;r1;r1;w0 0 1 0;w0 0 1 0;w0 0 1 0;w0 0 1 0;w0 0 1 0;w0 0 1 0", "w0; x", "5"}};

    private MusicWalls x = new MusicWalls();
    private Reference y = new Reference();
    private int calls = 0;
    private int passed = 0;
    private int failed = 0;

    public static void main(String[] args) {
        ShortTextTests t = new ShortTextTests();
        for (String[] kind : KINDS) t.tryAll(kind[0], kind[1], Integer.parseInt(kind[2]));
        System.out.println("ShortTextTests: " + t.passed + " passed, " + t.failed + " failed");
        if (t.failed > 0) System.exit(1);
    }

    private void tryAll(String text, String signs, int more) {
        tryOne(text);
        if (more == 0 || failed >= 5) return;
        for (int i = 0; i < signs.length(); i++) tryAll(text + signs.charAt(i), signs, more - 1);
    }

    private void tryOne(String text) {
        if (calls + text.length() + 30 > CALLS) {
            x = new MusicWalls();
            y = new Reference();
            calls = 0;
        }
        for (int i = 0; i < text.length(); i++) {
            x.feed(text.charAt(i));
            y.feed(text.charAt(i));
        }
        calls += text.length() + 30;
        String got = told(), want = asDue();
        if (got.equals(want)) passed++;
        else {
            failed++;
            System.out.println("text '" + text + "' answered " + got + ", due is " + want);
        }
    }

    /** House, fault, counts, and the last that was told of each kind: 30 calls at most. */
    private String told() {
        StringBuilder all = new StringBuilder().append(x.house()).append(" at ").append(x.fault()).append(':');
        for (int what = 0; what < 5; what++) all.append(' ').append(x.told(what));
        int r = x.told(1) - 1, p = x.told(2) - 1, w = x.told(3) - 1;
        for (int b = 0; b < 3; b++) all.append(' ').append(x.bar(0, b, 0)).append(' ').append(x.bar(0, b, 1));
        all.append(' ').append(x.room(r, 0)).append(' ').append(x.room(r, 4)).append(' ').append(x.bar(r, 0, 0));
        for (int what = 0; what < 3; what++) all.append(' ').append(x.person(p, what));
        for (int what = 0; what < 4; what++) all.append(' ').append(x.wall(w, what));
        return all.toString();
    }

    private String asDue() {
        StringBuilder all = new StringBuilder().append(y.house()).append(" at ").append(y.fault()).append(':');
        for (int what = 0; what < 5; what++) all.append(' ').append(y.told(what));
        int r = y.told(1) - 1, p = y.told(2) - 1, w = y.told(3) - 1;
        for (int b = 0; b < 3; b++) all.append(' ').append(y.bar(0, b, 0)).append(' ').append(y.bar(0, b, 1));
        all.append(' ').append(y.room(r, 0)).append(' ').append(y.room(r, 4)).append(' ').append(y.bar(r, 0, 0));
        for (int what = 0; what < 3; what++) all.append(' ').append(y.person(p, what));
        for (int what = 0; what < 4; what++) all.append(' ').append(y.wall(w, what));
        return all.toString();
    }
}
