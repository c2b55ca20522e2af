/** Edges of promises 16 and 36 to 38: what is BY DRAWS, THE SEED, IMAGES. */
final class ImageEdges extends Edge {
    private static final String ONES = "1,1,1,1,1,1,1,1,1,1,1,1";

    // ---- promise 36

    @Says("THE SEED becomes v (0 .. 2147483647): what it was. OUTSIDE.")
    void seedFrom0To2147483647() {
        MusicWalls x = new MusicWalls();
        due("0 at first", x.seed(MAX), 0);
        due("what it was", x.seed(0), MAX);
        for (int v : new int[] {-1, MIN, -MAX}) due("seed(" + v + ")", x.seed(v), OUTSIDE);
        due("what it was", x.seed(1), 0);
        due("what it was", x.seed(1), 1);
    }

    // ---- DRAWS

    @Says("(0 at first: each DRAW it becomes it times 1103515245 and 12345, left over by 2 to the 31;")
    void theSeedLeftOver() {
        // The first DRAW by itself; two more behind it, where it is 0 of 4.
        int[][] draws = {{MAX, 1043980748}, {65536 * 2, drawn(65536 * 2)}, {1, 1103527590}, {196608, drawn(196608)}};
        for (int[] d : draws) {
            MusicWalls x = of("d0;r1;");
            x.seed(d[0]);
            x.drift(1);
            int kind = d[1] / 65536 % 4;
            int last = kind == 0 ? drawn(drawn(d[1])) : d[1];
            due("THE SEED behind " + d[0], seedOf(x), last);
        }
        MusicWalls x = of("d0;r1;");
        x.drift(1);
        due("THE SEED behind 0", seedOf(x), drawn(drawn(12345)));
        due("12345 is the first", drawn(0), 12345);
    }

    @Says("(0 at first: each DRAW it becomes it times 1103515245 and 12345, left over by 2 to the 31;")
    void theSeedAcrossManyDraws() {
        MusicWalls x = of("d0;r1,1,1;r1,1;p0 0 1;p1 0 2;");
        x.seed(MAX);
        times(5, () -> x.drift(30));
        int seed = MAX;
        for (int i = 0; i < 150; i++) {
            seed = drawn(seed);
            if (seed / 65536 % 4 < 2) seed = drawn(drawn(seed));
        }
        due("THE SEED", seedOf(x), seed);
    }

    @Says("the DRAW of n is it / 65536, left over by n)")
    void theLeastAndTheGreatestDraw() {
        int least = 0, greatest = 0, second = 0;
        while (drawn(least) / 65536 != 0) least++;
        while (drawn(greatest) / 65536 != 32767) greatest++;
        while (drawn(second) / 65536 % 4 != 0 || drawn(drawn(second)) / 65536 != 32767) second++;
        MusicWalls x = of("d0;r1;");
        x.seed(greatest);
        x.drift(1);
        due("32767 of 4 is 3: one DRAW", seedOf(x), drawn(greatest));
        due("32767 of 4 is 3: nothing", x.told(9), 0);
        x.seed(least);
        x.drift(1);
        due("0 of 4 is 0: three DRAWS", seedOf(x), drawn(drawn(drawn(least))));
        due("0 of 4 is 0", x.told(9), 1);
        MusicWalls y = of("d0;r1;r1;r1;r1;r1;");
        y.seed(second);
        y.drift(1);
        like("32767 of 5 is 2", answers(4, r -> y.room(r, 1)), "0 0 1 0 0");
    }

    @Says("on 0 a DRAW of ROOMS, then one of its BARS: that BAR is LIFTED, if it is not, else PASTED;")
    void on0ABarIsLiftedOrPasted() {
        MusicWalls x = of("d0;r1;r1,1;r" + ONES + ";");
        int[][] bars = {{0, 0, 1}, {1, 0, 2}, {1, 1, 2}, {2, 0, 12}, {2, 11, 12}};
        for (int[] b : bars) {
            int v = seedFor(new int[] {4, 3, b[2]}, new int[] {0, b[0], b[1]});
            x.seed(v);
            x.drift(1);
            due("LIFTED", x.room(b[0], 1), 1 << b[1]);
            due("three DRAWS", seedOf(x), drawn(drawn(drawn(v))));
            x.seed(v);
            x.drift(1);
            due("PASTED", x.room(b[0], 1), 0);
            due("nothing else", x.told(9), 0);
        }
    }

    @Says("on 1, if there are PERSONS, a DRAW of these, then of 10: it is PACED so.")
    void on1APersonIsPaced() {
        int[][] paces = {{0, 0}, {4, 9}, {2, 5}};
        for (int[] p : paces) {
            MusicWalls x = of("d0;r1;p0 0 1;p0 0 1;p0 0 1;p0 0 1;p0 0 1;");
            int v = seedFor(new int[] {4, 5, 10}, new int[] {1, p[0], p[1]});
            x.seed(v);
            x.drift(1);
            for (int i = 0; i < 5; i++) due("P of " + i, x.person(i, 2), i == p[0] ? p[1] : 1);
            due("three DRAWS", seedOf(x), drawn(drawn(drawn(v))));
        }
    }

    @Says("on 1, if there are PERSONS, a DRAW of these, then of 10: it is PACED so.")
    void on1NobodyIsPaced() {
        MusicWalls x = of("d0;r1;");
        int v = seedFor(new int[] {4}, new int[] {1});
        x.seed(v);
        x.drift(1);
        due("one DRAW", seedOf(x), drawn(v));
        due("LIFTED", x.told(9), 0);
    }

    @Says("n HOURS: ahead of each, if there are ROOMS, a DRAW of 4:")
    void on2And3Nothing() {
        for (int kind = 2; kind < 4; kind++) {
            MusicWalls x = of("d0;r1,1;p0 0 1;");
            int v = seedFor(new int[] {4}, new int[] {kind});
            x.seed(v);
            x.drift(1);
            due("one DRAW", seedOf(x), drawn(v));
            like("an HOUR alone", section2(x), "HOURS 1 MET 0 LOG 0: LIFTED 0: 0 PERSON 0 1 1");
        }
    }

    @Says("n HOURS: ahead of each, if there are ROOMS, a DRAW of 4:")
    void withoutRoomsNoDraw() {
        MusicWalls x = of("d0;");
        x.seed(7);
        due("drift(30)", x.drift(30), 0);
        due("THE SEED", seedOf(x), 7);
        due("HOURS", x.told(5), 30);
        due("how many can be undone", x.told(13), 30);
    }

    @Says("n HOURS: ahead of each, if there are ROOMS, a DRAW of 4:")
    void theDrawIsAheadOfTheHour() {
        MusicWalls x = of("d0;r1,1,1;p0 0 1;");
        int v = seedFor(new int[] {4, 1, 10}, new int[] {1, 0, 2});
        x.seed(v);
        x.drift(1);
        due("it goes on as PACED", x.person(0, 1), 2);
        MusicWalls y = of("d0;r1,1,1,1;p0 0 3;");
        y.seed(seedFor(new int[] {4, 1, 4}, new int[] {0, 0, 2}));
        y.drift(1);
        due("it stops at what is LIFTED", y.person(0, 1), 2);
        MusicWalls z = of("d1;r1;u0 5;");
        z.lift(0, 0);
        z.seed(seedFor(new int[] {4}, new int[] {0}));
        z.drift(1);
        due("PASTED, then DAMP", z.room(0, 1), 1);
    }

    // ---- promise 16

    @Says("n HOURS BY DRAWS (1 .. 30): MET. OUTSIDE, NOT: no HOUSE;")
    void driftFrom1To30() {
        MusicWalls x = of("d0;r1;r1;p0 0 0;p1 0 0;w0 0 1 0;");
        due("drift(1)", x.drift(1), 1);
        due("drift(30)", x.drift(30), 31);
        due("HOURS", x.told(5), 31);
        for (int n : new int[] {0, -1, 31, MIN, MAX}) due("drift(" + n + ")", x.drift(n), OUTSIDE);
        due("HOURS", x.told(5), 31);
    }

    @Says("n HOURS BY DRAWS (1 .. 30): MET. OUTSIDE, NOT: no HOUSE;")
    void noDriftWithoutAHouse() {
        MusicWalls x = new MusicWalls();
        x.seed(9);
        due("drift(1)", x.drift(1), NOT);
        due("drift(30)", x.drift(30), NOT);
        due("THE SEED", seedOf(x), 9);
        due("HOURS", x.told(5), 0);
    }

    @Says("each HOUR BY DRAWS) since the text or IMAGE")
    void anHourByDrawsIsUndoneWithItsDraw() {
        MusicWalls x = of("d0;r1,1;p0 0 1;");
        x.seed(seedFor(new int[] {4, 1, 2}, new int[] {0, 0, 1}));
        x.drift(1);
        due("LIFTED", x.room(0, 1), 2);
        due("one deed", x.told(13), 1);
        x.undo(1);
        like("undone", section2(x), "HOURS 0 MET 0 LOG 0: LIFTED 0: 0 PERSON 0 0 1");
        x.seed(seedFor(new int[] {4, 1, 10}, new int[] {1, 0, 7}));
        x.drift(1);
        due("PACED", x.person(0, 2), 7);
        x.undo(1);
        like("undone", section2(x), "HOURS 0 MET 0 LOG 0: LIFTED 0: 0 PERSON 0 0 1");
    }

    // ---- promises 37, 38

    @Says("IMAGE i becomes what is so (nothing can be undone then): 1. UNKNOWN.")
    void keepOfTwoImages() {
        MusicWalls x = of("d0;r1,2;");
        x.hour(3);
        due("keep(0)", x.keep(0), 1);
        due("told(13)", x.told(13), 0);
        due("undo(1)", x.undo(1), NOT);
        due("keep(1)", x.keep(1), 1);
        x.hour(2);
        for (int i : new int[] {-1, 2, MIN, MAX}) due("keep(" + i + ")", x.keep(i), UNKNOWN);
        due("told(13)", x.told(13), 2);
        due("without a HOUSE", new MusicWalls().keep(1), 1);
    }

    @Says("What is so becomes IMAGE i (nothing can be undone then): 1. UNKNOWN, NOT: it was not kept.")
    void goBackToWhatWasKept() {
        MusicWalls x = of("d0;r1,2;");
        due("goBack(0)", x.goBack(0), NOT);
        x.keep(1);
        due("the other", x.goBack(0), NOT);
        for (int i : new int[] {-1, 2, MIN, MAX}) due("goBack(" + i + ")", x.goBack(i), UNKNOWN);
        x.hour(3);
        due("goBack(1)", x.goBack(1), 1);
        due("HOURS", x.told(5), 0);
        due("told(13)", x.told(13), 0);
        due("undo(1)", x.undo(1), NOT);
        x.hour(2);
        due("again", x.goBack(1), 1);
        due("HOURS", x.told(5), 0);
        MusicWalls bare = new MusicWalls();
        bare.seed(4);
        bare.keep(0);
        bare.seed(5);
        due("without a HOUSE", bare.goBack(0), 1);
        due("its SEED", seedOf(bare), 4);
    }

    @Says("IMAGES 0, 1 keep all of section 2, THE SEED.")
    void anImageKeepsAllOfSection2() {
        MusicWalls x = of("d3;r1,2,1;r2,1;u0 4,5,6;p0 0 1;p1 0 1;w0 1 1 1;");
        x.seed(11);
        x.hour(7);
        x.pace(1, 2);
        String first = section2(x);
        x.keep(0);
        x.seed(12);
        x.drift(9);
        x.moveTo(0, 1);
        x.pace(0, 5);
        int seed = seedOf(x);
        String second = section2(x);
        x.keep(1);
        x.goBack(0);
        like("IMAGE 0", section2(x), first);
        due("its SEED", seedOf(x), 11);
        x.hour(30);
        x.goBack(1);
        like("IMAGE 1", section2(x), second);
        due("its SEED", seedOf(x), seed);
        x.hour(2);
        String third = section2(x);
        x.keep(0);
        x.goBack(1);
        x.goBack(0);
        like("IMAGE 0 kept again", section2(x), third);
    }

    @Says("IMAGES 0, 1 keep all of section 2, THE SEED.")
    void anImageKeepsNothingElse() {
        MusicWalls x = of("d0;r1,2;");
        x.see(0, 1);
        x.write(0, 0, 1);
        x.keep(0);
        x.see(1, 2);
        x.tear();
        x.write(0, 1, 2);
        fed(x, "d0");
        x.goBack(0);
        due("SEEN", x.told(11), 0);
        due("THE BOOK", x.told(12), 1);
        due("THE TEXT", x.told(4), 2);
    }
}
