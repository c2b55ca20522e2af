/** Each promise of the document by itself: ordinary inputs, the edges that it names, wrong inputs. */
public final class PromiseTests {
    private static final int NONE = -1, UNKNOWN = -1000000001, OUTSIDE = -1000000002, NOT = -1000000003, FULL = -1000000004;
    private static final int MIN = Integer.MIN_VALUE, MAX = Integer.MAX_VALUE;

    private static int promise = 0;
    private static int passed = 0;
    private static int failed = 0;

    private static void due(String what, int got, int want) {
        if (got == want) {
            passed++;
            return;
        }
        failed++;
        System.out.println("promise " + promise + ": " + what + " answered " + got + ", due is " + want);
    }

    private static void fed(MusicWalls x, String text) {
        for (int i = 0; i < text.length(); i++) x.feed(text.charAt(i));
    }

    private static int housed(MusicWalls x, String text) {
        fed(x, text);
        return x.house();
    }

    private static MusicWalls of(String text) {
        MusicWalls x = new MusicWalls();
        if (housed(x, text) < 0) due("the text " + text, x.fault(), NONE);
        return x;
    }

    /** A text with a fault of this number at this place. */
    private static void faulty(String text, int number, int place) {
        MusicWalls x = new MusicWalls();
        due("house() of '" + text + "'", housed(x, text), -10 - number);
        due("fault() of '" + text + "'", x.fault(), place);
        due("THE TEXT behind '" + text + "'", x.told(4), 0);
        due("D behind '" + text + "'", x.told(0), NONE);
    }

    private static void fine(String text, int rooms) {
        MusicWalls x = new MusicWalls();
        due("house() of '" + text + "'", housed(x, text), rooms);
        due("fault() of '" + text + "'", x.fault(), NONE);
    }

    public static void main(String[] args) {
        promise1(); promise2(); promise3(); promise3Faults(); promise4(); promise5(); promise6(); promise7(); promise8();
        promise9(); promise10(); promise11(); promise12(); promise13(); promise14(); promise15(); promise16(); promise17();
        promise18(); promise19(); promise20(); promise21(); promise22(); promise23(); promise24(); promise25(); promise26();
        promise27(); promise28(); promise29(); promise30(); promise31(); promise32(); promise33(); promise34(); promise35();
        promise36(); promise37(); promise38();
        System.out.println("PromiseTests: " + passed + " passed, " + failed + " failed");
        if (failed > 0) System.exit(1);
    }

    private static void promise1() {
        promise = 1;
        due("NONE", MusicWalls.NONE, -1);
        due("UNKNOWN", MusicWalls.UNKNOWN, -1000000001);
        due("OUTSIDE", MusicWalls.OUTSIDE, -1000000002);
        due("NOT", MusicWalls.NOT, -1000000003);
        due("FULL", MusicWalls.FULL, -1000000004);
        MusicWalls x = new MusicWalls();
        int[] told = {NONE, 0, 0, 0, 0, 0, 0, 0, 0, 0, NONE, 0, 0, 0};
        for (int what = 0; what < told.length; what++) due("told(" + what + ")", x.told(what), told[what]);
        due("fault()", x.fault(), NONE);
        due("room(0, 0)", x.room(0, 0), UNKNOWN);
        due("bar(0, 0, 0)", x.bar(0, 0, 0), UNKNOWN);
        due("person(0, 0)", x.person(0, 0), UNKNOWN);
        due("wall(0, 0)", x.wall(0, 0), UNKNOWN);
        due("logged(0, 0)", x.logged(0, 0), NONE);
        due("shortest(0)", x.shortest(0), NONE);
        due("places(0)", x.places(0), 0);
        due("goBack(0)", x.goBack(0), NOT);
        due("seed(0)", x.seed(0), 0);
    }

    private static void promise2() {
        promise = 2;
        MusicWalls x = new MusicWalls();
        due("feed(-1)", x.feed(-1), OUTSIDE);
        due("feed(256)", x.feed(256), OUTSIDE);
        due("feed(MIN)", x.feed(MIN), OUTSIDE);
        due("feed(0)", x.feed(0), 1);
        due("feed(255)", x.feed(255), 2);
        for (int i = 3; i <= 240; i++) due("feed(32)", x.feed(32), i);
        due("the 241st", x.feed(32), FULL);
        due("a wrong 241st", x.feed(300), OUTSIDE);
        due("letters", x.told(4), 240);
        due("house()", x.house(), -11);
        due("fault()", x.fault(), 0);
        due("behind house()", x.feed('d'), 1);
        StringBuilder longest = new StringBuilder("d7;r1;");
        while (longest.length() < 239) longest.append(' ');
        fine(longest + " ", 1);
        faulty(longest + "p", 1, 240);
    }

    private static void promise3() {
        promise = 3;
        fine("", 0);
        fine("   ", 0);
        fine("d0;", 0);
        fine(" d 099 ; r 1 , 002 ; ", 1);
        fine("d1;r0;r1;r2;r3;r4;r5;", 6);
        fine("d1;r1,2;u0 0,9;p0 1 9;", 1);
        MusicWalls x = of("d2;r1,0,3;r4;u0 7,8,9;p0 0 1;p1 0 0;w0 1 1 0;");
        x.seed(5);
        x.hour(2);
        x.see(0, 1);
        x.write(0, 0, 1);
        x.keep(0);
        x.lift(1, 0);
        due("a faulty text", housed(x, "d1;r1;x"), -11);
        due("fault()", x.fault(), 6);
        due("all is as it was: D", x.told(0), 2);
        due("all is as it was: MET", x.told(6), 1);
        due("all is as it was: LIFTED", x.told(9), 2);
        due("all is as it was: SEEN", x.told(11), 1);
        due("all is as it was: BOOK", x.told(12), 1);
        due("all is as it was: undone", x.told(13), 1);
        due("a new one", housed(x, "d5;r2,2;"), 1);
        due("fault()", x.fault(), NONE);
        int[] told = {5, 1, 0, 0, 0, 0, 0, 0, 0, 0, 2, 0, 0, 0};
        for (int what = 0; what < told.length; what++) due("told(" + what + ")", x.told(what), told[what]);
        due("UNDER it", x.bar(0, 0, 1), 0);
        due("UNDER was told", x.room(0, 4), 0);
        due("the IMAGE", x.goBack(0), NOT);
        due("THE LOG", x.logged(0, 0), NONE);
        due("THE SEED", x.seed(9), 5);
        x.keep(1);
        due("no letters", x.house(), 0);
        due("no HOUSE", x.told(0), NONE);
        due("no ROOM", x.room(0, 0), UNKNOWN);
        due("no IMAGE", x.goBack(1), NOT);
        due("the same text again", housed(x, "d5;r2,2;"), 1);
    }

    private static void promise3Faults() {
        faulty(";", 1, 0);
        faulty("  r1;", 1, 2);
        faulty("1", 1, 0);
        faulty("D0;", 1, 0);
        faulty("d", 1, 1);
        faulty("d  ", 1, 3);
        faulty("d0", 1, 2);
        faulty("d0 ", 1, 3);
        faulty("d,", 1, 1);
        faulty("d0 0;", 1, 3);
        faulty("d0 1234;", 1, 3);
        faulty("d0;;", 1, 3);
        faulty("d0;5", 1, 3);
        faulty("d0;x", 1, 3);
        faulty("d0;\t", 1, 3);
        faulty("d0;r;", 1, 4);
        faulty("d0;r1,", 1, 6);
        faulty("d0;r1 2;", 1, 6);
        faulty("d0;r1,2,3,4,5,6,7,8,9,0,1,2 ,3;", 1, 28);
        faulty("d0;r1,2;u0;", 1, 10);
        faulty("d0;r1,2;u0 1;", 1, 12);
        faulty("d0;r1,2;u0 1", 1, 12);
        faulty("d0;r1,2;u0 1,;", 1, 13);
        faulty("d0;r1,2;u0 1,2,3;", 1, 14);
        faulty("d0;r1,2;u0,1,2;", 1, 10);
        faulty("d0;r1;p00 0;", 1, 11);
        faulty("d0;r1;p0 0 1 1;", 1, 13);
        faulty("d0;r1;r2;w0 0 1;", 1, 15);
        faulty("d100;", 2, 1);
        faulty("d0000;", 2, 1);
        faulty("d123456789012345678901;", 2, 1);
        faulty("d0;r10;", 2, 4);
        faulty("d0;r1,0001;", 2, 6);
        faulty("d0;u0 1;", 2, 4);
        faulty("d0;r1;u1 1;", 2, 7);
        faulty("d0;r1;u0 10;", 2, 9);
        faulty("d0;p0 0 1;r1;", 2, 4);
        faulty("d0;r1;p1 0 1;", 2, 7);
        faulty("d0;r1;p0 1 1;", 2, 9);
        faulty("d0;r1;p6 0 1;", 2, 7);
        faulty("d0;r1;u999 0;", 2, 7);
        faulty("d0;r1;w999999999999 0 0 0;", 2, 7);
        faulty("d0;r1;p0 0 10;", 2, 11);
        faulty("d0;r1;r2;w2 0 0 0;", 2, 10);
        faulty("d0;r1;r2;w0 1 1 0;", 2, 12);
        faulty("d0;r1;r2;w0 0 2 0;", 2, 14);
        faulty("d0;r1;r2;w0 0 0000 0;", 2, 14);
        faulty("d0;r1;r2,2;w0 0 1 2;", 2, 18);
        faulty("d0;d0;", 3, 3);
        faulty("d0d", 1, 2);
        faulty("d1;r0;r1;r2;r3;r4;r5;r6;", 3, 21);
        faulty("d1;r0;p0 0 1;p0 0 1;p0 0 1;p0 0 1;p0 0 1;p", 3, 41);
        faulty("d1;r0;r1;w0 0 1 0;w0 0 1 0;w0 0 1 0;w0 0 1 0;w0 0 1 0;w0 0 1 0;w", 3, 63);
        fine("d1;r0;p0 0 1;p0 0 1;p0 0 1;p0 0 1;p0 0 1;", 1);
        fine("d1;r0;r1;w0 0 1 0;w0 0 1 0;w0 0 1 0;w0 0 1 0;w0 0 1 0;w0 0 1 0;", 2);
        faulty("d0;r1;u0 1;u0 1;", 4, 12);
        faulty("d0;r1;u0 1;u 00 1;", 4, 13);
        faulty("d0;r1;u0 1;u0000 1;", 2, 12);
        faulty("d0;r1;r2;w1 0 1 0;", 4, 14);
        faulty("d0;r1;r2;w1 0 001;", 4, 14);
    }

    private static void promise4() {
        promise = 4;
        MusicWalls x = new MusicWalls();
        due("fault() of a new object", x.fault(), NONE);
        housed(x, "d0;r1,x;");
        due("fault()", x.fault(), 6);
        fed(x, "d0;");
        due("not yet read", x.fault(), 6);
        x.house();
        due("a good one", x.fault(), NONE);
        housed(x, "  d");
        due("the end", x.fault(), 3);
        x.house();
        due("an empty one", x.fault(), NONE);
        housed(x, "d0;r1;");
        housed(x, "d0");
        due("what was fed before is not read again", x.fault(), 2);
    }

    private static void promise5() {
        promise = 5;
        MusicWalls x = of("d2;r1,2,1;r3,2;r5;u0 9,9,9;p0 0 1;p1 0 1;w0 1 1 1;");
        fed(x, "d0");
        int[] told = {2, 3, 2, 1, 2, 0, 0, 0, 2, 0, 1, 0, 0, 0};
        for (int what = 0; what < told.length; what++) due("told(" + what + ")", x.told(what), told[what]);
        x.hour(4);
        x.see(0, 0);
        x.see(1, 0);
        x.write(0, 0, 3);
        int[] later = {2, 3, 2, 1, 2, 4, 1, 1, 3, 2, 2, 2, 1, 4};
        for (int what = 0; what < later.length; what++) due("later told(" + what + ")", x.told(what), later[what]);
        due("told(-1)", x.told(-1), OUTSIDE);
        due("told(14)", x.told(14), OUTSIDE);
        due("told(MIN)", x.told(MIN), OUTSIDE);
        due("D of 0", of("d0;").told(0), 0);
        due("MOST READ, of like ones the least", of("d0;r4,3,0,0,0;r3,4;").told(10), 3);
        due("MOST READ, once", of("d0;r0,9,0;").told(10), 9);
        due("MOST READ, rests alone", of("d0;r0,0;").told(10), NONE);
        MusicWalls full = of("d0;r1,1,1,1,1,1,1,1,1,1,1,1;r2,2,2,2,2,2,2,2,2,2,2,2;");
        due("OPEN: none of twelve BARS", full.told(8), 0);
        due("MOST READ of twelve BARS", full.told(10), 1);
        due("KEY of twelve BARS", full.room(0, 2), 0);
        due("OPEN: one BAR alone is not", of("d0;r7;r1,2;r1,2,1;r0,1;").told(8), 10);
    }

    private static void promise6() {
        promise = 6;
        MusicWalls x = of("d0;r1,2,1,2;r9,9,9;r1,2,3,1;r0;r1,1,2,1,1,2;u1 8,0,7;u3 0;");
        int[][] rooms = {{4, 0, 6, 2, 0}, {3, 0, 3, 1, 1}, {4, 0, 7, 4, 0}, {1, 0, 0, 1, 1}, {6, 0, 8, 3, 0}};
        for (int r = 0; r < rooms.length; r++) {
            for (int what = 0; what < 5; what++) due("room(" + r + ", " + what + ")", x.room(r, what), rooms[r][what]);
        }
        x.lift(1, 0);
        x.lift(1, 2);
        x.lift(0, 3);
        due("LIFTED", x.room(1, 1), 5);
        due("LIFTED", x.room(0, 1), 8);
        due("KEY", x.room(1, 2), 0);
        due("REPEAT", x.room(1, 3), 3);
        due("REPEAT", x.room(0, 3), 4);
        due("room(-1, 0)", x.room(-1, 0), UNKNOWN);
        due("room(5, 9)", x.room(5, 9), UNKNOWN);
        due("room(4, 5)", x.room(4, 5), OUTSIDE);
        due("room(4, -1)", x.room(4, -1), OUTSIDE);
    }

    private static void promise7() {
        promise = 7;
        MusicWalls x = of("d0;r1,2;r3;u0 4,5;");
        due("PAPER", x.bar(0, 1, 0), 2);
        due("UNDER", x.bar(0, 1, 1), 5);
        due("READS", x.bar(0, 1, 2), 2);
        x.lift(0, 1);
        x.lift(1, 0);
        due("PAPER stays", x.bar(0, 1, 0), 2);
        due("READS what is UNDER", x.bar(0, 1, 2), 5);
        due("nothing told is UNDER", x.bar(1, 0, 1), 0);
        due("READS nothing", x.bar(1, 0, 2), 0);
        due("bar(0, 2, 0)", x.bar(0, 2, 0), UNKNOWN);
        due("bar(1, 1, 7)", x.bar(1, 1, 7), UNKNOWN);
        due("bar(0, -1, 0)", x.bar(0, -1, 0), UNKNOWN);
        due("bar(2, 0, 0)", x.bar(2, 0, 0), UNKNOWN);
        due("bar(MAX, 0, 0)", x.bar(MAX, 0, 0), UNKNOWN);
        due("bar(0, MIN, 0)", x.bar(0, MIN, 0), UNKNOWN);
        due("bar(0, 0, 3)", x.bar(0, 0, 3), OUTSIDE);
        due("bar(0, 0, -1)", x.bar(0, 0, -1), OUTSIDE);
    }

    private static void promise8() {
        promise = 8;
        MusicWalls x = of("d0;r1,2;r3,0,5;p1 2 9;p0 1 0;");
        int[][] persons = {{1, 2, 9, 5}, {0, 1, 0, 2}};
        for (int p = 0; p < 2; p++) {
            for (int what = 0; what < 4; what++) due("person(" + p + ", " + what + ")", x.person(p, what), persons[p][what]);
        }
        x.lift(0, 1);
        due("what it reads", x.person(1, 3), 0);
        due("person(2, 0)", x.person(2, 0), UNKNOWN);
        due("person(-1, 9)", x.person(-1, 9), UNKNOWN);
        due("person(0, 4)", x.person(0, 4), OUTSIDE);
        due("person(0, -1)", x.person(0, -1), OUTSIDE);
    }

    private static void promise9() {
        promise = 9;
        MusicWalls x = of("d0;r1,2;r3,0,5;w1 2 0 1;w0 0 1 1;");
        int[][] walls = {{1, 2, 0, 1}, {0, 0, 1, 1}};
        for (int w = 0; w < 2; w++) {
            for (int what = 0; what < 4; what++) due("wall(" + w + ", " + what + ")", x.wall(w, what), walls[w][what]);
        }
        due("wall(2, 0)", x.wall(2, 0), UNKNOWN);
        due("wall(-1, 4)", x.wall(-1, 4), UNKNOWN);
        due("wall(1, 4)", x.wall(1, 4), OUTSIDE);
        due("wall(1, -1)", x.wall(1, -1), OUTSIDE);
    }

    private static void promise10() {
        promise = 10;
        MusicWalls x = of("d0;r1;r1;p0 0 0;p0 0 0;p1 0 0;p1 0 0;w0 0 1 0;w1 0 0 0;");
        x.hour(1);
        int[][] log = {{1, 3, 1}, {1, 3, 0}, {1, 2, 1}, {1, 2, 0}, {0, 1, 3}, {0, 1, 2}, {0, 0, 3}, {0, 0, 2}};
        for (int i = 0; i < log.length; i++) {
            for (int what = 0; what < 3; what++) due("logged(" + i + ", " + what + ")", x.logged(i, what), log[i][what]);
        }
        due("none so early", x.logged(8, 0), NONE);
        x.hour(2);
        due("keeps 20", x.told(7), 20);
        due("MET goes on", x.told(6), 24);
        due("the earliest kept", x.logged(19, 0), 1);
        due("the earliest kept", x.logged(19, 1), 2);
        due("the earliest kept", x.logged(19, 2), 0);
        due("logged(20, 0)", x.logged(20, 0), NONE);
        due("logged(-1, 0)", x.logged(-1, 0), NONE);
        due("logged(MIN, 0)", x.logged(MIN, 0), NONE);
        due("logged(0, 3)", x.logged(0, 3), OUTSIDE);
        due("logged(-1, -1)", x.logged(-1, -1), OUTSIDE);
        x.undo(2);
        due("undone: latest", x.logged(0, 0), 1);
        due("undone: how many", x.told(7), 8);
        undoneLog();
    }

    /** A LOG that was overwritten in between is as it was. */
    private static void undoneLog() {
        MusicWalls x = of("d0;r1,1,1;r1,1,1;p0 0 1;p1 0 1;p1 0 1;w0 0 1 0;w0 1 1 1;w0 2 1 2;");
        x.hour(10);
        x.keep(0);
        int[] latest = new int[60];
        for (int i = 0; i < 60; i++) latest[i] = x.logged(i / 3, i % 3);
        x.hour(1);
        due("one later", x.logged(0, 0), 2);
        due("one later", x.logged(1, 0), 2);
        due("one before", x.logged(2, 0), 1);
        x.undo(1);
        for (int i = 0; i < 60; i++) due("undone: logged(" + i / 3 + ", " + i % 3 + ")", x.logged(i / 3, i % 3), latest[i]);
        x.hour(7);
        x.goBack(0);
        for (int i = 0; i < 60; i++) due("IMAGE: logged(" + i / 3 + ", " + i % 3 + ")", x.logged(i / 3, i % 3), latest[i]);
    }

    private static void promise11() {
        promise = 11;
        MusicWalls x = of("d3;r1,0,2,3;r4,5;u1 0,0;p0 0 3;p1 0 1;p0 1 2;p0 0 0;w0 1 1 1;w1 1 0 3;");
        due("hour(1)", x.hour(1), 2);
        due("stops at a rest", x.person(0, 1), 1);
        due("goes round", x.person(1, 1), 1);
        due("goes on from a rest", x.person(2, 1), 3);
        due("stays", x.person(3, 1), 0);
        due("hour(1)", x.hour(1), 2);
        due("behind the last comes BAR 0", x.person(0, 1), 0);
        due("stops there", x.person(2, 1), 1);
        due("no DAMP yet", x.told(9), 0);
        due("hour(1)", x.hour(1), 4);
        due("DAMP 0", x.room(0, 1), 1);
        due("without UNDER it is a rest", x.person(3, 3), 0);
        x.hour(3);
        due("DAMP 1", x.room(1, 1), 1);
        x.hour(3);
        due("DAMP 2", x.room(0, 1), 3);
        x.lift(1, 1);
        x.hour(3);
        due("DAMP 3 finds it LIFTED", x.room(1, 1), 3);
        x.hour(12);
        due("DAMP round the BARS", x.told(9), 6);
        due("HOURS", x.told(5), 24);
        MusicWalls dry = of("d0;r1;");
        dry.hour(30);
        due("no DAMP at all", dry.told(9), 0);
        MusicWalls bare = of("d1;");
        due("no ROOMS", bare.hour(30), 0);
        due("no ROOMS", bare.told(5), 30);
        MusicWalls one = of("d1;r1,2,3;");
        one.hour(2);
        due("one ROOM alone", one.room(0, 1), 3);
        due("hour(0)", x.hour(0), OUTSIDE);
        due("hour(31)", x.hour(31), OUTSIDE);
        due("hour(MIN)", x.hour(MIN), OUTSIDE);
        due("no HOUSE", new MusicWalls().hour(1), NOT);
        due("no HOUSE", new MusicWalls().hour(31), OUTSIDE);
    }

    private static void promise12() {
        promise = 12;
        MusicWalls x = of("d0;r1,2;r3;u0 4,5;");
        due("lift(0, 1)", x.lift(0, 1), 5);
        due("again", x.lift(0, 1), NOT);
        due("nothing told", x.lift(1, 0), 0);
        due("the others stay", x.room(0, 1), 2);
        due("lift(0, 2)", x.lift(0, 2), UNKNOWN);
        due("lift(2, 0)", x.lift(2, 0), UNKNOWN);
        due("lift(-1, 0)", x.lift(-1, 0), UNKNOWN);
        due("lift(0, -1)", x.lift(0, -1), UNKNOWN);
        due("deeds", x.told(13), 2);
    }

    private static void promise13() {
        promise = 13;
        MusicWalls x = of("d0;r1,2;r3;u0 4,5;");
        due("not LIFTED", x.paste(0, 1), NOT);
        x.lift(0, 0);
        x.lift(0, 1);
        due("paste(0, 1)", x.paste(0, 1), 2);
        due("LIFTED stays", x.room(0, 1), 1);
        due("again", x.paste(0, 1), NOT);
        due("paste(0, 2)", x.paste(0, 2), UNKNOWN);
        due("paste(2, 0)", x.paste(2, 0), UNKNOWN);
        due("paste(MIN, MIN)", x.paste(MIN, MIN), UNKNOWN);
        due("deeds", x.told(13), 3);
    }

    private static void promise14() {
        promise = 14;
        MusicWalls x = of("d0;r1,2;r3,2,2;r2;p0 1 4;p0 0 1;");
        due("moveTo(0, 1)", x.moveTo(0, 1), 1);
        due("ROOM", x.person(0, 0), 1);
        due("BAR", x.person(0, 1), 1);
        due("P", x.person(0, 2), 4);
        due("it is there", x.moveTo(0, 1), NOT);
        due("no BAR READS so", x.moveTo(1, 1), NOT);
        due("moveTo(0, 2)", x.moveTo(0, 2), 0);
        x.lift(2, 0);
        due("no rest there", x.moveTo(0, 0), NOT);
        x.lift(0, 1);
        due("a LIFTED one", x.moveTo(0, 0), 1);
        due("moveTo(2, 0)", x.moveTo(2, 0), UNKNOWN);
        due("moveTo(-1, 0)", x.moveTo(-1, 0), UNKNOWN);
        due("moveTo(0, 3)", x.moveTo(0, 3), UNKNOWN);
        due("moveTo(0, -1)", x.moveTo(0, -1), UNKNOWN);
        due("deeds", x.told(13), 5);
    }

    private static void promise15() {
        promise = 15;
        MusicWalls x = of("d0;r1,2,3;p0 0 4;p0 0 1;");
        due("pace(0, 9)", x.pace(0, 9), 4);
        due("pace(0, 0)", x.pace(0, 0), 9);
        due("the same", x.pace(0, 0), 0);
        due("the other", x.person(1, 2), 1);
        x.hour(1);
        due("stays", x.person(0, 1), 0);
        due("pace(2, 10)", x.pace(2, 10), UNKNOWN);
        due("pace(-1, 0)", x.pace(-1, 0), UNKNOWN);
        due("pace(0, 10)", x.pace(0, 10), OUTSIDE);
        due("pace(0, -1)", x.pace(0, -1), OUTSIDE);
        due("deeds", x.told(13), 4);
    }

    private static void promise16() {
        promise = 16;
        // From 0 THE SEED becomes 12345, 1406932606, 654583775; 1449466924, 229283573, 1109335178.
        // The draws: 0 of 4, ROOM 0 of 3, BAR 3 of 5; 1 of 4, PERSON 0 of 3, P 7 of 10.
        MusicWalls x = of("d0;r1,2,3,0,1;r2,3,4;r3,0,1,2;p0 0 1;p1 2 2;p2 1 3;w0 1 1 1;w1 0 2 1;");
        due("drift(1)", x.drift(1), 1);
        due("LIFTED", x.room(0, 1), 8);
        due("LIFTED in all", x.told(9), 1);
        due("three draws", x.seed(654583775), 654583775);
        due("drift(1)", x.drift(1), 2);
        due("PACED", x.person(0, 2), 7);
        due("it went on so", x.person(0, 1), 3);
        due("three draws", x.seed(0), 1109335178);
        due("LIFTED in all", x.told(9), 1);
        due("HOURS", x.told(5), 2);
        due("one undone by one", x.told(13), 2);
        MusicWalls one = of("d0;r1;u0 5;");
        one.lift(0, 0);
        one.drift(1);
        due("PASTED", one.told(9), 0);
        one.seed(0);
        one.drift(1);
        due("LIFTED", one.bar(0, 0, 2), 5);
        MusicWalls bare = of("d0;");
        due("no ROOMS", bare.drift(30), 0);
        due("no draws", bare.seed(0), 0);
        MusicWalls alone = of("d0;r1;");
        alone.seed(65536 * 3);
        alone.drift(1);
        int drawn = (int) ((65536L * 3 * 1103515245L + 12345L) % 2147483648L);
        due("what is drawn", drawn / 65536 % 4, 3);
        due("nothing else is drawn", alone.seed(0), drawn);
        due("drift(0)", x.drift(0), OUTSIDE);
        due("drift(31)", x.drift(31), OUTSIDE);
        due("no HOUSE", new MusicWalls().drift(1), NOT);
        due("no HOUSE", new MusicWalls().drift(-1), OUTSIDE);
        driftPaces();
    }

    /** The first draw 1 of 4: a PERSON, if there is one, is PACED. */
    private static void driftPaces() {
        int v = 0;
        while (drawnFrom(v) / 65536 % 4 != 1) v += 65536;
        int first = drawnFrom(v), second = drawnFrom(first), third = drawnFrom(second);
        MusicWalls x = of("d0;r1,1;p0 0 0;p0 0 0;p0 0 0;");
        x.seed(v);
        x.drift(1);
        due("PACED", x.person(second / 65536 % 3, 2), third / 65536 % 10);
        due("three draws", x.seed(v), third);
        MusicWalls alone = of("d0;r1,1;p0 0 0;");
        alone.seed(v);
        alone.drift(1);
        due("one PERSON alone", alone.person(0, 2), third / 65536 % 10);
        MusicWalls empty = of("d0;r1,1;");
        empty.seed(v);
        empty.drift(1);
        due("nobody to be PACED: one draw", empty.seed(0), first);
    }

    private static int drawnFrom(int v) {
        return (int) ((v * 1103515245L + 12345L) % 2147483648L);
    }

    private static void promise17() {
        promise = 17;
        MusicWalls x = of("d1;r1,2;r2,1;u0 5,6;p0 0 1;w0 1 1 0;");
        due("nothing yet", x.undo(1), NOT);
        x.seed(77);
        x.hour(2);
        x.lift(0, 1);
        x.pace(0, 9);
        x.moveTo(0, 0);
        x.drift(2);
        due("how many", x.told(13), 6);
        int seed = x.seed(0);
        x.seed(seed);
        due("undo(7)", x.undo(7), NOT);
        due("undo(2)", x.undo(2), 2);
        due("THE SEED stays", x.seed(3), seed);
        due("PACED", x.person(0, 2), 9);
        due("undo(1)", x.undo(1), 2);
        due("P", x.person(0, 2), 1);
        due("LIFTED", x.room(0, 1), 3);
        due("undo(1)", x.undo(1), 2);
        due("not LIFTED", x.room(0, 1), 1);
        due("undo(1)", x.undo(1), 1);
        due("its BAR", x.person(0, 1), 1);
        due("undo(1)", x.undo(1), 0);
        due("its BAR", x.person(0, 1), 0);
        due("DAMP undone", x.told(9), 0);
        due("no more", x.undo(1), NOT);
        x.hour(30);
        x.hour(5);
        due("30 are kept", x.told(13), 30);
        due("undo(0)", x.undo(0), OUTSIDE);
        due("undo(31)", x.undo(31), OUTSIDE);
        due("undo(29)", x.undo(29), 6);
        due("undo(1)", x.undo(1), 5);
        due("no more", x.undo(1), NOT);
        x.hour(30);
        due("undo(30)", x.undo(30), 5);
        due("no HOUSE", new MusicWalls().undo(1), NOT);
        due("no HOUSE", new MusicWalls().undo(0), OUTSIDE);
    }

    private static void promise18() {
        promise = 18;
        MusicWalls x = of("d2;r1,2,3;u0 1,0,3;p0 0 2;");
        due("where(0, 0)", x.where(0, 0), 0);
        due("where(0, 1)", x.where(0, 1), 2);
        due("where(0, 2)", x.where(0, 2), 1);
        due("where(0, 4)", x.where(0, 4), 2);
        due("DAMP on the way", x.where(0, 5), 1);
        due("nothing changes", x.told(5) + x.told(9) + x.told(13) + x.person(0, 1), 0);
        MusicWalls far = of("d0;r1,2,3,4,5,6,7;p0 0 1;");
        due("where(0, 99)", far.where(0, 99), 1);
        due("where(1, 0)", x.where(1, 0), UNKNOWN);
        due("where(-1, 100)", x.where(-1, 100), UNKNOWN);
        due("where(0, 100)", x.where(0, 100), OUTSIDE);
        due("where(0, -1)", x.where(0, -1), OUTSIDE);
    }

    private static void promise19() {
        promise = 19;
        MusicWalls x = of("d0;r1,2;r1,2,3;p0 0 1;p1 0 1;p1 0 1;w0 1 1 1;");
        due("meets(0)", x.meets(0), 0);
        due("meets(1)", x.meets(1), 2);
        due("meets(6)", x.meets(6), 2);
        due("meets(7)", x.meets(7), 4);
        due("meets(99)", x.meets(99), 34);
        x.hour(1);
        due("those to come", x.meets(6), 2);
        due("nothing changes", x.told(6), 2);
        due("meets(-1)", x.meets(-1), OUTSIDE);
        due("meets(100)", x.meets(100), OUTSIDE);
        due("no HOUSE", new MusicWalls().meets(5), 0);
    }

    private static void promise20() {
        promise = 20;
        MusicWalls x = of("d0;r1,2;r1,2,3;r4,5;p0 0 1;p1 0 1;p0 1 1;p2 0 1;w1 2 0 1;w1 1 2 1;");
        due("at B and A", x.together(0, 1), 5);
        due("at A and B", x.together(1, 0), 5);
        due("another", x.together(2, 1), 2);
        due("another WALL", x.together(1, 3), 1);
        due("never", x.together(0, 2), NONE);
        due("one WALL behind the last", of("d0;r1;p0 0 0;p0 0 0;").together(0, 1), NONE);
        due("nothing changes", x.told(5) + x.told(6) + x.told(13), 0);
        due("a like one", x.together(1, 1), UNKNOWN);
        due("together(0, 4)", x.together(0, 4), UNKNOWN);
        due("together(-1, 0)", x.together(-1, 0), UNKNOWN);
        // DAMP 1 (HOUR 198) turns the rest that holds PERSON 0 into none: at BAR 1 behind 199 HOURS, at 2 behind 200.
        String held = "d99;r1;r0,1,1,1;u1 1,1,1,1;p1 0 5;p0 0 0;";
        due("behind 199", of(held + "w1 1 0 0;").together(0, 1), 199);
        due("behind 200", of(held + "w1 2 0 0;").together(0, 1), 200);
        due("behind 201", of(held + "w1 3 0 0;").together(0, 1), NONE);
    }

    private static void promise21() {
        promise = 21;
        MusicWalls x = of("d0;r1,2,3,1;r2,3,1;u0 9,9,9,9;");
        due("canon(0, 1, 0)", x.canon(0, 1, 0), 0);
        due("canon(0, 1, 2)", x.canon(0, 1, 2), 4);
        due("canon(0, 1, 11)", x.canon(0, 1, 11), 4);
        due("canon(1, 0, 1)", x.canon(1, 0, 1), 3);
        due("canon(1, 0, 5)", x.canon(1, 0, 5), 3);
        due("canon(1, 0, 2)", x.canon(1, 0, 2), 1);
        due("one behind the last is none", of("d0;r1,0;r2,2,0;").canon(0, 1, 0), 0);
        x.lift(0, 0);
        due("canon(0, 1, 2)", x.canon(0, 1, 2), 3);
        due("canon(0, 0, 0)", x.canon(0, 0, 0), UNKNOWN);
        due("canon(0, 2, 12)", x.canon(0, 2, 12), UNKNOWN);
        due("canon(-1, 0, 0)", x.canon(-1, 0, 0), UNKNOWN);
        due("canon(0, 1, 12)", x.canon(0, 1, 12), OUTSIDE);
        due("canon(0, 1, -1)", x.canon(0, 1, -1), OUTSIDE);
    }

    private static void promise22() {
        promise = 22;
        MusicWalls x = of("d0;r1,2,3,1;r2,3,1;r5;r1,9,1,9;");
        due("k", x.bestCanon(0, 1, 0), 2);
        due("how many", x.bestCanon(0, 1, 1), 4);
        due("none alike: the least k", x.bestCanon(0, 2, 0), 0);
        due("none alike", x.bestCanon(0, 2, 1), 0);
        due("of like ones the least", x.bestCanon(0, 3, 0), 0);
        due("of like ones the least: how many", x.bestCanon(0, 3, 1), 1);
        due("bestCanon(1, 1, 0)", x.bestCanon(1, 1, 0), UNKNOWN);
        due("bestCanon(4, 1, 2)", x.bestCanon(4, 1, 2), UNKNOWN);
        due("bestCanon(0, 1, 2)", x.bestCanon(0, 1, 2), OUTSIDE);
        due("bestCanon(0, 1, -1)", x.bestCanon(0, 1, -1), OUTSIDE);
    }

    private static void promise23() {
        promise = 23;
        MusicWalls x = of("d0;r1,2,3;r4,2,5;u0 4,7,5;r0,2,0;");
        due("how many", x.match(0, 1, 0, 0), 2);
        due("which", x.match(0, 1, 0, 1), 5);
        due("NONE", x.match(0, 1, 1, 0), NONE);
        due("NONE", x.match(0, 1, 1, 1), NONE);
        due("untold UNDER is 0", x.match(1, 2, 0, 1), 5);
        due("match(1, 2, 9, 1)", x.match(1, 2, 9, 1), 5);
        due("match(1, 2, 11, 0)", x.match(1, 2, 11, 0), NONE);
        due("match(1, 2, 11, 1)", x.match(1, 2, 11, 1), NONE);
        x.lift(0, 1);
        due("PASTED", x.match(0, 1, 3, 1), 7);
        x.lift(0, 0);
        x.lift(0, 2);
        due("PASTED", x.match(0, 1, 0, 0), 1);
        due("PASTED", x.match(0, 1, 0, 1), 2);
        x.paste(0, 1);
        due("nothing to do", x.match(0, 1, 0, 0), 0);
        due("nothing to do", x.match(0, 1, 0, 1), 0);
        due("nothing changes", x.room(0, 1), 5);
        due("match(0, 0, 0, 0)", x.match(0, 0, 0, 0), UNKNOWN);
        due("match(0, 3, 12, 2)", x.match(0, 3, 12, 2), UNKNOWN);
        due("match(0, 1, 12, 0)", x.match(0, 1, 12, 0), OUTSIDE);
        due("match(0, 1, 0, 2)", x.match(0, 1, 0, 2), OUTSIDE);
        due("match(0, 1, -1, 0)", x.match(0, 1, -1, 0), OUTSIDE);
        due("match(0, 1, 1, -1)", x.match(0, 1, 1, -1), OUTSIDE);
    }

    private static void promise24() {
        promise = 24;
        MusicWalls x = of("d0;r1,2,1,2;r1,2,3;r2;r2,1,2;");
        due("join(0, 1)", x.join(0, 1), 2);
        due("join(1, 0)", x.join(1, 0), 0);
        due("a whole ROOM", x.join(0, 2), 1);
        due("a whole ROOM", x.join(0, 3), 3);
        due("the most", x.join(3, 0), 2);
        x.lift(1, 1);
        due("LIFTED", x.join(0, 1), 0);
        due("join(0, 0)", x.join(0, 0), UNKNOWN);
        due("join(0, 4)", x.join(0, 4), UNKNOWN);
        due("join(-1, 0)", x.join(-1, 0), UNKNOWN);
    }

    private static void promise25() {
        promise = 25;
        MusicWalls x = of("d0;r1,2,3;r3,4,1;r4,1,2;");
        due("how many", x.shortest(0), 5);
        due("ORDER", x.shortest(1), 231);
        MusicWalls like = of("d0;r1;r2;r3;r4;r5;r6;");
        due("all alike", like.shortest(0), 6);
        due("the least", like.shortest(1), 123456);
        MusicWalls one = of("d0;r1,1,1;");
        due("one ROOM", one.shortest(0), 3);
        due("one ROOM", one.shortest(1), 1);
        MusicWalls back = of("d0;r6,7;r5,6;r4,5;r3,4;r2,3;r1,2;");
        due("backwards", back.shortest(0), 7);
        due("backwards", back.shortest(1), 654321);
        MusicWalls chain = of("d0;r1,2;r3,1;r2,4;r5;");
        due("a chain", chain.shortest(0), 5);
        due("a chain", chain.shortest(1), 2134);
        MusicWalls behind = of("d0;r1,2;r9;r2,3;");
        due("the next by the one ahead", behind.shortest(0), 4);
        due("the next by the one ahead", behind.shortest(1), 132);
        back.lift(2, 0);
        due("LIFTED", back.shortest(0), 8);
        due("LIFTED", back.shortest(1), 321654);
        due("no ROOMS", of("d0;").shortest(1), NONE);
        due("shortest(2)", x.shortest(2), OUTSIDE);
        due("shortest(-1)", new MusicWalls().shortest(-1), OUTSIDE);
    }

    private static void promise26() {
        promise = 26;
        MusicWalls x = of("d0;r9,2;r1;r9;r9,1;r5;");
        due("nearest(0)", x.nearest(0), 3);
        due("round the twelve", x.nearest(1), 0);
        due("nearest(2)", x.nearest(2), 3);
        due("of like ones the least", x.nearest(4), 1);
        x.lift(4, 0);
        due("LIFTED: of like ones the least", x.nearest(4), 0);
        due("one ROOM", of("d0;r1;").nearest(0), NONE);
        due("nearest(5)", x.nearest(5), UNKNOWN);
        due("nearest(-1)", x.nearest(-1), UNKNOWN);
    }

    private static void promise27() {
        promise = 27;
        MusicWalls x = of("d0;r1;r3;r5;r8;r6,5;r9;");
        due("to itself", x.modulation(3, 3), 0);
        due("one step", x.modulation(0, 1), 1);
        due("one step round", x.modulation(4, 0), 1);
        due("two steps", x.modulation(0, 2), 2);
        due("three steps", x.modulation(4, 2), 3);
        due("two the other way", x.modulation(3, 4), 2);
        due("the longest", x.modulation(2, 3), 6 - 1);
        x.lift(1, 0);
        due("NONE", x.modulation(0, 2), NONE);
        due("modulation(0, 6)", x.modulation(0, 6), UNKNOWN);
        due("modulation(-1, -1)", x.modulation(-1, -1), UNKNOWN);
        due("modulation(6, 6)", x.modulation(6, 6), UNKNOWN);
    }

    private static void promise28() {
        promise = 28;
        MusicWalls x = of("d0;r1,2;r2,0;p0 1 0;p1 1 0;p1 0 0;p0 0 0;");
        due("sounds(2)", x.sounds(2), 5);
        due("sounds(0)", x.sounds(0), 2);
        due("sounds(9)", x.sounds(9), 0);
        x.lift(1, 0);
        due("LIFTED", x.sounds(0), 6);
        due("sounds(10)", x.sounds(10), OUTSIDE);
        due("sounds(-1)", x.sounds(-1), OUTSIDE);
        due("no HOUSE", new MusicWalls().sounds(0), 0);
    }

    private static void promise29() {
        promise = 29;
        MusicWalls x = new MusicWalls();
        due("dry(0, 0)", x.dry(0, 0), 1000000000);
        due("dry(1, 0)", x.dry(1, 0), 0);
        due("dry(60, 100)", x.dry(60, 100), 1000000000);
        due("dry(3, 33)", x.dry(3, 33), 35937000);
        due("cut each time", x.dry(6, 99), 941480148);
        due("dry(60, 99)", x.dry(60, 99), 547156620);
        due("dry(61, 50)", x.dry(61, 50), OUTSIDE);
        due("dry(-1, 50)", x.dry(-1, 50), OUTSIDE);
        due("dry(1, 101)", x.dry(1, 101), OUTSIDE);
        due("dry(1, -1)", x.dry(1, -1), OUTSIDE);
    }

    private static void promise30() {
        promise = 30;
        MusicWalls x = new MusicWalls();
        due("see(12, 0)", x.see(12, 0), OUTSIDE);
        due("see(-1, 0)", x.see(-1, 0), OUTSIDE);
        due("see(0, 10)", x.see(0, 10), OUTSIDE);
        due("see(0, -1)", x.see(0, -1), OUTSIDE);
        for (int i = 1; i <= 6; i++) due("see(11, 9)", x.see(11, 9), i);
        due("a seventh", x.see(0, 0), FULL);
        due("a wrong seventh", x.see(12, 0), OUTSIDE);
        due("told(11)", x.told(11), 6);
    }

    private static void promise31() {
        promise = 31;
        MusicWalls x = of("d0;r5;r1,2,1;r1,2,3,1,2;");
        due("nothing SEEN", x.places(0), 9);
        due("nothing SEEN", x.places(1), 0);
        due("nothing SEEN", x.places(2), 7);
        x.see(1, 2);
        due("how many", x.places(0), 3);
        due("the first", x.places(1), 100);
        due("ROOMS", x.places(2), 6);
        x.see(7, 3);
        due("round", x.places(0), 1);
        due("round: the first", x.places(1), 200);
        due("round: ROOMS", x.places(2), 4);
        x.see(1, 3);
        due("nowhere", x.places(0), 0);
        due("nowhere", x.places(1), NONE);
        due("nowhere", x.places(2), 0);
        x.tear();
        x.lift(0, 0);
        x.see(11, 0);
        due("LIFTED", x.places(0), 1);
        due("LIFTED", x.places(2), 1);
        due("places(3)", x.places(3), OUTSIDE);
        due("places(-1)", x.places(-1), OUTSIDE);
    }

    private static void promise32() {
        promise = 32;
        due("no HOUSE", new MusicWalls().lookAt(), NONE);
        MusicWalls x = of("d0;r1,1,2,1,3,1,1,2,1,4;");
        due("d 0 parts them", x.lookAt(), 0);
        x.see(0, 2);
        due("BARS 2 and 7 are told apart 2 on", x.lookAt(), 2);
        x.see(2, 3);
        due("one is left", x.lookAt(), NONE);
        x.see(2, 4);
        due("nothing is left", x.lookAt(), NONE);
        due("all alike", of("d0;r7,7;r7;").lookAt(), NONE);
        due("the last d", of("d0;r1,1,1,1,1,1,1,1,1,1,1,2;r1,1,1,1,1,1,1,1,1,1,1,1;").lookAt(), 0);
        MusicWalls far = of("d0;r0,1,1,1,1,1,1,1,1,1,1,2;r0,1,1,1,1,1,1,1,1,1,1,3;");
        far.see(0, 0);
        MusicWalls like = of("d0;r1,2;r2,1;");
        due("of like ones the least", like.lookAt(), 0);
        like.see(1, 2);
        due("12 would be like 0", like.lookAt(), NONE);
        MusicWalls nine = of("d0;r0,9,1;r0,9,2;r0,8,3;");
        nine.see(0, 0);
        due("parts of 9", nine.lookAt(), 2);
        MusicWalls twelve = of("d0;r0,1,0,0,0,0,0,0,0,0,0,0;r0,1,0,0,0,0,0,0,0,0,0;");
        twelve.see(0, 0);
        twelve.see(1, 1);
        due("12 alone would part them", twelve.lookAt(), NONE);
        due("two", twelve.places(0), 2);
        due("d 11", far.lookAt(), 11);
    }

    private static void promise33() {
        promise = 33;
        MusicWalls x = of("d0;r1,2;");
        due("write(1, 0, 10)", x.write(1, 0, 10), UNKNOWN);
        due("write(0, 2, 0)", x.write(0, 2, 0), UNKNOWN);
        due("write(-1, 0, 0)", x.write(-1, 0, 0), UNKNOWN);
        due("write(0, 0, 10)", x.write(0, 0, 10), OUTSIDE);
        due("write(0, 0, -1)", x.write(0, 0, -1), OUTSIDE);
        for (int i = 1; i <= 20; i++) due("write(0, 1, 2)", x.write(0, 1, 2), i);
        due("a 21st", x.write(0, 0, 1), FULL);
        due("a wrong 21st", x.write(0, 0, 10), OUTSIDE);
        due("an unknown 21st", x.write(0, 2, 0), UNKNOWN);
        due("told(12)", x.told(12), 20);
    }

    private static void promise34() {
        promise = 34;
        MusicWalls x = of("d0;r1,2;r3;");
        due("no BOOK", x.judge(), NONE);
        x.write(0, 0, 1);
        x.write(1, 0, 0);
        x.write(0, 1, 3);
        due("the first", x.judge(), 1);
        x.lift(1, 0);
        due("the next", x.judge(), 2);
        x.lift(0, 0);
        due("the first again", x.judge(), 0);
        x.tear();
        due("torn", x.judge(), NONE);
        x.write(0, 1, 2);
        due("another BAR", x.judge(), NONE);
    }

    private static void promise35() {
        promise = 35;
        MusicWalls x = of("d0;r1,2;r3;");
        due("nothing", x.tear(), 0);
        x.see(0, 9);
        x.write(0, 0, 1);
        x.write(0, 0, 2);
        due("tear()", x.tear(), 3);
        due("nothing SEEN", x.told(11), 0);
        due("no BOOK", x.told(12), 0);
        due("all fits", x.places(0), 3);
        due("tear()", x.tear(), 0);
    }

    private static void promise36() {
        promise = 36;
        MusicWalls x = new MusicWalls();
        due("0 at first", x.seed(MAX), 0);
        due("seed(-1)", x.seed(-1), OUTSIDE);
        due("seed(MIN)", x.seed(MIN), OUTSIDE);
        due("what it was", x.seed(7), MAX);
        due("what it was", x.seed(0), 7);
        MusicWalls y = of("d0;r1;");
        y.seed(MAX);
        y.drift(1);
        due("left over by 2 to the 31", y.seed(0) >= 0 ? 1 : 0, 1);
    }

    private static void promise37() {
        promise = 37;
        due("no HOUSE", new MusicWalls().keep(0), 1);
        MusicWalls x = of("d0;r1,2,3;p0 0 1;");
        x.hour(2);
        due("keep(1)", x.keep(1), 1);
        due("nothing can be undone", x.told(13), 0);
        due("nothing can be undone", x.undo(1), NOT);
        due("HOURS", x.told(5), 2);
        x.hour(1);
        due("keep(1) again", x.keep(1), 1);
        x.hour(4);
        x.goBack(1);
        due("the later one", x.told(5), 3);
        due("keep(2)", x.keep(2), UNKNOWN);
        due("keep(-1)", x.keep(-1), UNKNOWN);
    }

    private static void promise38() {
        promise = 38;
        MusicWalls x = of("d3;r1,2,3;r2,1;u0 4,5,6;p0 0 1;p1 0 0;w0 1 1 0;");
        due("not kept", x.goBack(0), NOT);
        x.seed(11);
        x.hour(4);
        x.keep(0);
        x.seed(12);
        x.hour(7);
        x.pace(0, 5);
        x.paste(0, 1);
        x.paste(1, 0);
        due("moveTo(1, 0)", x.moveTo(1, 0), 1);
        x.keep(1);
        x.see(0, 1);
        x.write(0, 0, 4);
        x.lift(1, 1);
        due("goBack(0)", x.goBack(0), 1);
        due("nothing can be undone", x.told(13), 0);
        int[] told = {3, 2, 2, 1, 0, 4, 2, 2, 3, 1, 2, 1, 1, 0};
        for (int what = 0; what < told.length; what++) due("told(" + what + ")", x.told(what), told[what]);
        due("P", x.person(0, 2), 1);
        due("ROOM", x.person(1, 0), 1);
        due("THE SEED", x.seed(1), 11);
        due("goBack(1)", x.goBack(1), 1);
        due("HOURS", x.told(5), 11);
        due("P", x.person(0, 2), 5);
        due("ROOM", x.person(1, 0), 0);
        due("THE SEED", x.seed(1), 12);
        x.hour(1);
        due("again", x.goBack(0), 1);
        due("HOURS", x.told(5), 4);
        due("goBack(2)", x.goBack(2), UNKNOWN);
        due("goBack(-1)", x.goBack(-1), UNKNOWN);
        due("the other not kept", keptOne().goBack(0), NOT);
    }

    private static MusicWalls keptOne() {
        MusicWalls x = of("d0;");
        x.keep(1);
        return x;
    }
}
