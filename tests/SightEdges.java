/** Edges of promises 30 to 35: what was SEEN, and THE BOOK. */
final class SightEdges extends Edge {
    private static final String ONES = "1,1,1,1,1,1,1,1,1,1,1,1";

    // ---- promise 30

    @Says("SEEN: how much. OUTSIDE, FULL (6).")
    void sixAreSeen() {
        MusicWalls x = new MusicWalls();
        due("see(0, 0)", x.see(0, 0), 1);
        due("see(11, 9)", x.see(11, 9), 2);
        due("the same again", x.see(11, 9), 3);
        due("against it", x.see(11, 8), 4);
        due("a fifth", x.see(5, 5), 5);
        due("a sixth", x.see(5, 6), 6);
        due("a seventh", x.see(0, 0), FULL);
        due("told(11)", x.told(11), 6);
    }

    @Says("READS x (0 .. 9) d BARS (0 .. 11) on, round.")
    void seenWithinItsBounds() {
        MusicWalls x = new MusicWalls();
        for (int d : new int[] {-1, 12, MIN, MAX}) due("see(" + d + ", 0)", x.see(d, 0), OUTSIDE);
        for (int f : new int[] {-1, 10, MIN, MAX}) due("see(0, " + f + ")", x.see(0, f), OUTSIDE);
        due("told(11)", x.told(11), 0);
    }

    @Says("SEEN (6 at most): one at an unknown BAR of an unknown ROOM READS x")
    void theSixthCounts() {
        MusicWalls x = of("d0;r1,2,3,4,5,6,7;r1,2,3,4,5,7,6;");
        for (int d = 0; d < 5; d++) x.see(d, d + 1);
        due("five", x.places(0), 2);
        x.see(5, 7);
        due("six", x.places(0), 1);
        x.see(0, 9);
        due("the seventh was refused", x.places(0), 1);
        due("the one left", x.places(1), 100);
    }

    // ---- promise 31

    @Says("PLACES: BARS of ROOMS at which all that is SEEN is so: how many; the first (100 times the ROOM, and the BAR); ROOMS (a SET) of these.")
    void nothingSeenAllFits() {
        String room = "r" + ONES + ";";
        MusicWalls x = of("d0;" + room + room + room + room + room + room);
        like("all", answers(2, x::places), "72 0 63");
        like("without ROOMS", answers(2, of("d0;")::places), "0 -1 0");
        like("without a HOUSE", answers(2, new MusicWalls()::places), "0 -1 0");
    }

    @Says("PLACES: what = 0 how many, 1 the first (NONE), 2 ROOMS. OUTSIDE.")
    void nothingFits() {
        MusicWalls x = of("d0;r1,2;r3;");
        x.see(0, 9);
        like("nothing", answers(2, x::places), "0 -1 0");
        x.tear();
        x.see(0, 1);
        x.see(0, 2);
        like("one against the other", answers(2, x::places), "0 -1 0");
        for (int what : new int[] {-1, 3, MIN, MAX}) due("places(" + what + ")", x.places(what), OUTSIDE);
    }

    @Says("the first (100 times the ROOM, and the BAR);")
    void theFirstFromTheFirstToTheLast() {
        String text = "d0;r1,1;r2;r1;r1;r1;r" + ONES.substring(2) + ",3;";
        int[] firsts = {NONE, 0, 100, 511};
        for (int n = 1; n < firsts.length; n++) {
            MusicWalls x = of(text);
            x.see(0, n);
            due("the first " + n, x.places(1), firsts[n]);
        }
        MusicWalls x = of(text);
        x.see(0, 1);
        x.see(1, 3);
        due("the last but one", x.places(1), 510);
    }

    @Says("READS x (0 .. 9) d BARS (0 .. 11) on, round.")
    void seenRound() {
        MusicWalls x = of("d0;r4,5,6;r7;");
        x.see(11, 4);
        like("11 on of 3 is 2 on", answers(2, x::places), "1 1 1");
        x.see(3, 5);
        like("3 on of 3 is here", answers(2, x::places), "1 1 1");
        x.tear();
        x.see(11, 7);
        x.see(0, 7);
        like("of one BAR all is here", answers(2, x::places), "1 100 2");
        MusicWalls twelve = of("d0;r2," + ONES.substring(2) + ";");
        twelve.see(11, 2);
        like("11 on of 12", answers(2, twelve::places), "1 1 1");
        twelve.see(0, 2);
        due("12 on is not 11 on", twelve.places(0), 0);
    }

    @Says("PLACES: BARS of ROOMS at which all that is SEEN is so")
    void placesByWhatIsReadNow() {
        MusicWalls x = of("d0;r1,2;r3;u0 3,3;");
        x.see(0, 3);
        due("one", x.places(0), 1);
        x.lift(0, 1);
        like("two", answers(2, x::places), "2 1 3");
        x.undo(1);
        like("undone", answers(2, x::places), "1 100 2");
    }

    // ---- promise 32

    @Says("LOOK AT: the d (0 .. 11) by which these are told apart best: the greatest part that READS alike is least;")
    void lookAtTheLeastGreatestPart() {
        // Here 1 1 1 2 2 3: 3 at most by d 0; one on 1 1 2 2 3 1: 3 at most.
        due("of like ones the least", of("d0;r1,1,1,2,2,3;").lookAt(), 0);
        MusicWalls x = of("d0;r5,1,1;r5,1,2;r5,1,3;r5,2,3;");
        x.see(0, 5);
        // One on 1 1 1 2, two on 1 2 3 3.
        due("two on", x.lookAt(), 2);
        // One on 1 1 1 1 2 3: three parts, one of four; two on 1 1 1 2 2 2: two parts, none above three.
        MusicWalls parts = of("d0;r5,1,1;r5,1,1;r5,1,1;r5,1,2;r5,2,2;r5,3,2;");
        parts.see(0, 5);
        due("not the most parts", parts.lookAt(), 2);
        MusicWalls far = of("d0;r0,1,1,1,1,1,1,1,1,1,1,2;r0,1,1,1,1,1,1,1,1,1,1,3;");
        far.see(0, 0);
        due("d 11", far.lookAt(), 11);
        MusicWalls near = of("d0;r4,5;r6,5;r6,5;");
        near.see(1, 5);
        due("d 0", near.lookAt(), 0);
    }

    @Says("of like ones the least; NONE: none parts them.")
    void noneParts() {
        due("without a HOUSE", new MusicWalls().lookAt(), NONE);
        due("without ROOMS", of("d0;").lookAt(), NONE);
        due("one BAR", of("d0;r1;").lookAt(), NONE);
        due("all alike", of("d0;r1,1;r1,1,1;").lookAt(), NONE);
        MusicWalls x = of("d0;r1,2;r2,1;");
        due("two and two", x.lookAt(), 0);
        x.see(0, 1);
        due("alike all round", x.lookAt(), NONE);
        x.see(0, 2);
        due("nothing fits", x.lookAt(), NONE);
        MusicWalls one = of("d0;r1,2,3;");
        one.see(0, 3);
        due("one PLACE", one.lookAt(), NONE);
    }

    @Says("LOOK AT: the d (0 .. 11) by which these are told apart best: the greatest part that READS alike is least;")
    void allPlacesThatThereCanBe() {
        String room = "r" + ONES + ";";
        MusicWalls x = of("d0;" + room + room + room + room + room + "r" + ONES.substring(2) + ",2;");
        due("the last of 72 is otherwise", x.lookAt(), 0);
        due("72", x.places(0), 72);
        MusicWalls y = of("d0;" + room + room + room + room + room + room);
        due("72 alike", y.lookAt(), NONE);
    }

    @Says("LOOK AT: the d (0 .. 11) by which these are told apart best")
    void dOf12IsTooFar() {
        MusicWalls x = of("d0;r0,1,0,0,0,0,0,0,0,0,0,0;r0,1,0,0,0,0,0,0,0,0,0;");
        x.see(0, 0);
        x.see(1, 1);
        due("two PLACES", x.places(0), 2);
        due("12 on alone would part them", x.lookAt(), NONE);
    }

    @Says("of like ones the least; NONE: none parts them.")
    void partsOf0AndOf9() {
        MusicWalls x = of("d0;r5,9;r5,0;");
        x.see(0, 5);
        due("9 and 0", x.lookAt(), 1);
        MusicWalls nines = of("d0;r5,9,1;r5,9,2;");
        nines.see(0, 5);
        due("9 and 9", nines.lookAt(), 2);
        MusicWalls rests = of("d0;r5,0,1;r5,0,2;");
        rests.see(0, 5);
        due("0 and 0", rests.lookAt(), 2);
    }

    // ---- promise 33

    @Says("An entry behind THE BOOK (x 0 .. 9): how many. UNKNOWN, OUTSIDE, FULL (20).")
    void twentyEntries() {
        MusicWalls x = of("d0;r1,2;");
        for (int i = 1; i <= 20; i++) due("entry " + i, x.write(0, i % 2, i % 10), i);
        due("the 21st", x.write(0, 0, 1), FULL);
        due("told(12)", x.told(12), 20);
    }

    @Says("An entry behind THE BOOK (x 0 .. 9): how many. UNKNOWN, OUTSIDE, FULL (20).")
    void entriesWithinTheirBounds() {
        MusicWalls x = of("d0;r1,2;r" + ONES + ";");
        due("0", x.write(0, 1, 0), 1);
        due("9", x.write(1, 11, 9), 2);
        for (int f : new int[] {-1, 10, MIN, MAX}) due("write(0, 0, " + f + ")", x.write(0, 0, f), OUTSIDE);
        int[][] unknown = {{-1, 0}, {2, 0}, {MIN, 0}, {MAX, 0}, {0, -1}, {0, 2}, {0, 11}, {1, 12}, {0, MIN}, {0, MAX}};
        for (int[] u : unknown) due("write(" + u[0] + ", " + u[1] + ", 1)", x.write(u[0], u[1], 1), UNKNOWN);
        due("told(12)", x.told(12), 2);
        due("without a HOUSE", new MusicWalls().write(0, 0, 0), UNKNOWN);
    }

    // ---- promise 34

    @Says("THE BOOK (20 at most) tells what BARS READ: WRONG: the first that is otherwise now; NONE.")
    void theFirstWrong() {
        MusicWalls x = of("d0;r1,2;u0 0,3;");
        due("no BOOK", x.judge(), NONE);
        x.write(0, 0, 1);
        due("right", x.judge(), NONE);
        x.write(0, 1, 3);
        x.write(0, 1, 4);
        due("the first of two", x.judge(), 1);
        x.lift(0, 1);
        due("right now, the next", x.judge(), 2);
        x.lift(0, 0);
        due("entry 0", x.judge(), 0);
        x.undo(2);
        due("undone", x.judge(), 1);
    }

    @Says("THE BOOK (20 at most) tells what BARS READ: WRONG: the first that is otherwise now; NONE.")
    void theLastOf20Wrong() {
        MusicWalls x = of("d0;r1,2;r0;");
        for (int i = 0; i < 19; i++) x.write(0, 0, 1);
        x.write(1, 0, 0);
        due("all right", x.judge(), NONE);
        x.lift(1, 0);
        due("a rest UNDER a rest", x.judge(), NONE);
        MusicWalls y = of("d0;r1,2;r0;");
        for (int i = 0; i < 19; i++) y.write(0, 0, 1);
        y.write(0, 1, 1);
        due("the last", y.judge(), 19);
        y.write(1, 0, 1);
        y.lift(0, 1);
        due("the last", y.judge(), 19);
    }

    // ---- promise 35

    @Says("Nothing SEEN, no BOOK: how much both had.")
    void tornFromNoneToAll() {
        MusicWalls x = of("d0;r1,2;");
        due("nothing", x.tear(), 0);
        times(6, () -> x.see(0, 9));
        times(20, () -> x.write(0, 0, 9));
        due("all", x.tear(), 26);
        due("told(11)", x.told(11), 0);
        due("told(12)", x.told(12), 0);
        due("judge()", x.judge(), NONE);
        due("places(0)", x.places(0), 2);
        due("again", x.tear(), 0);
        due("not FULL any more", x.see(0, 1), 1);
        due("not FULL any more", x.write(0, 0, 1), 1);
        due("one of each", x.tear(), 2);
    }
}
