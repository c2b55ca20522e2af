/** Edges of promises 18 to 29: what is TRIED from now. */
final class TriedEdges extends Edge {
    private static final String ONES = "1,1,1,1,1,1,1,1,1,1,1,1", TWOS = ONES.replace('1', '2');

    @Says("TRIED from now; nothing changes by it.")
    void nothingChangesByIt() {
        MusicWalls x = of("d2;r1,2,1;r2,1;u0 2,0,1;p0 0 1;p1 0 1;w0 1 1 1;");
        x.hour(3);
        x.keep(0);
        x.seed(99);
        x.hour(1);
        x.see(0, 1);
        x.write(0, 1, 2);
        String before = all(x);
        x.where(0, 99);
        x.meets(99);
        x.together(0, 1);
        x.canon(0, 1, 1);
        x.bestCanon(0, 1, 0);
        x.match(0, 1, 1, 1);
        x.join(0, 1);
        x.shortest(1);
        x.nearest(0);
        x.modulation(0, 1);
        x.sounds(1);
        x.dry(60, 50);
        x.places(0);
        x.lookAt();
        x.judge();
        like("all", all(x), before);
        due("undo(1)", x.undo(1), 3);
        due("undo(1)", x.undo(1), NOT);
    }

    // ---- promise 18

    @Says("WHERE: the BAR of a PERSON behind n HOURS (0 .. 99).")
    void whereFrom0To99() {
        MusicWalls x = of("d0;r1,1,1,1,1,1,1;r1,0,1;p0 3 1;p1 2 9;");
        due("where(0, 0)", x.where(0, 0), 3);
        due("where(0, 1)", x.where(0, 1), 4);
        due("where(0, 4)", x.where(0, 4), 0);
        due("where(0, 98)", x.where(0, 98), 3);
        due("where(0, 99)", x.where(0, 99), 4);
        due("where(1, 0)", x.where(1, 0), 2);
        due("where(1, 99)", x.where(1, 99), 1);
        x.hour(2);
        due("from now", x.where(0, 99), 6);
    }

    @Says("`int where(int p, int n)`: WHERE. UNKNOWN, OUTSIDE.")
    void whereOfAPerson() {
        MusicWalls x = of("d0;r1,1;p0 1 1;p0 0 1;");
        for (int n : new int[] {-1, 100, MIN, MAX}) due("where(0, " + n + ")", x.where(0, n), OUTSIDE);
        for (int p : new int[] {-1, 2, 5, MIN, MAX}) due("where(" + p + ", 0)", x.where(p, 0), UNKNOWN);
        due("the last PERSON", x.where(1, 0), 0);
    }

    @Says("WHERE: the BAR of a PERSON behind n HOURS (0 .. 99).")
    void whereWithDampOnTheWay() {
        MusicWalls x = of("d99;r1,1;r1,1;u1 0,1;p0 0 9;");
        due("ahead of it", x.where(0, 99), 1);
        x.hour(1);
        due("behind it", x.where(0, 99), 0);
    }

    // ---- promise 19

    @Says("MEETS: how many MEET in the next n HOURS.")
    void meetsInTheNextHours() {
        MusicWalls x = of("d0;r1,1;r1,1,1;p0 0 1;p1 0 1;w0 0 1 0;");
        due("in none", x.meets(0), 0);
        due("in 5", x.meets(5), 0);
        due("in 6", x.meets(6), 1);
        due("in 95", x.meets(95), 15);
        due("in 96", x.meets(96), 16);
        due("in 99", x.meets(99), 16);
        x.hour(6);
        due("those that MET do not count", x.meets(5), 0);
        due("MET", x.told(6), 1);
    }

    @Says("MEETS (n 0 .. 99). OUTSIDE.")
    void meetsFrom0To99() {
        MusicWalls x = of("d0;r1;r1;p0 0 0;p1 0 0;w0 0 1 0;");
        due("meets(0)", x.meets(0), 0);
        due("meets(99)", x.meets(99), 99);
        for (int n : new int[] {-1, 100, MIN, MAX}) due("meets(" + n + ")", x.meets(n), OUTSIDE);
        due("without a HOUSE", new MusicWalls().meets(99), 0);
        due("without a HOUSE", new MusicWalls().meets(100), OUTSIDE);
        due("more than THE LOG keeps", of("d0;r1;r1;p0 0 0;p0 0 0;p1 0 0;p1 0 0;w0 0 1 0;w0 0 1 0;").meets(99), 792);
    }

    // ---- promise 20

    @Says("TOGETHER: behind how many HOURS (1 .. 200) two PERSONS MEET first; NONE.")
    void togetherFrom1To200() {
        due("behind 1", of("d0;r1,1,1;r1;p0 0 1;p1 0 0;w0 1 1 0;").together(0, 1), 1);
        due("now alone is not", of("d0;r1,1,1;r1;p0 0 1;p1 0 0;w0 0 1 0;").together(0, 1), 3);
        due("now and on", of("d0;r1;r1;p0 0 0;p1 0 0;w0 0 1 0;").together(0, 1), 1);
        due("first", of("d0;r1,1;r1,1,1;p0 0 1;p1 0 1;w0 0 1 0;w0 1 1 2;").together(0, 1), 5);
        // At HOUR 198 DAMP LIFTS the rest that holds PERSON 0: it is at BAR 1 behind 199 HOURS, at BAR 2 behind 200.
        String held = "d99;r1;r0,1,1,1;u1 1,1,1,1;p1 0 5;p0 0 0;";
        due("behind 199", of(held + "w1 1 0 0;").together(0, 1), 199);
        due("behind 200", of(held + "w1 2 0 0;").together(0, 1), 200);
        due("behind 201", of(held + "w1 3 0 0;").together(0, 1), NONE);
        due("never", of("d0;r1,1;r1,1;p0 0 1;p1 1 1;w0 0 1 0;").together(0, 1), NONE);
        due("no WALL", of("d0;r1;r1;p0 0 0;p1 0 0;").together(0, 1), NONE);
        due("in one ROOM", of("d0;r1;r1;p0 0 0;p0 0 0;w0 0 1 0;").together(0, 1), NONE);
    }

    @Says("TOGETHER: behind how many HOURS (1 .. 200) two PERSONS MEET first; NONE.")
    void togetherAtAOrAtB() {
        MusicWalls x = of("d0;r1;r1;p0 0 0;p1 0 0;w0 0 1 0;");
        due("at A, at B", x.together(0, 1), 1);
        due("at B, at A", x.together(1, 0), 1);
        due("others do not count", of("d0;r1;r1,1;p0 0 0;p1 1 0;p1 0 0;w0 0 1 0;").together(0, 1), NONE);
    }

    @Says("TOGETHER; NONE. UNKNOWN.")
    void togetherOfTwo() {
        MusicWalls x = of("d0;r1;r1;p0 0 0;p1 0 0;w0 0 1 0;");
        for (int p : new int[] {-1, 2, 5, MIN, MAX}) {
            due("together(" + p + ", 0)", x.together(p, 0), UNKNOWN);
            due("together(0, " + p + ")", x.together(0, p), UNKNOWN);
        }
        due("one twice", x.together(0, 0), UNKNOWN);
        due("one twice", x.together(1, 1), UNKNOWN);
    }

    // ---- promise 21

    @Says("CANON of two ROOMS by k (0 .. 11): how many BARS i of the first one READ as BAR i and k (left over by its BARS) of the second one.")
    void canonFrom0To11() {
        MusicWalls x = of("d0;r1,2,3,4,5;r1,2,3;r7;r" + ONES + ";");
        due("k 0: BARS 3, 4 round to 0, 1", x.canon(0, 1, 0), 3);
        due("k 1", x.canon(0, 1, 1), 0);
        due("k 3 is as 0", x.canon(0, 1, 3), 3);
        due("k 11 is as 2", x.canon(0, 1, 11), x.canon(0, 1, 2));
        due("the shorter first", x.canon(1, 0, 0), 3);
        due("k 5 is as 0", x.canon(1, 0, 5), 3);
        due("k 4", x.canon(1, 0, 4), 0);
        due("one BAR", x.canon(0, 2, 11), 0);
        due("all twelve", of("d0;r" + ONES + ";r1;").canon(0, 1, 11), 12);
        due("twelve of twelve, by 11", of("d0;r2," + ONES.substring(2) + ";r" + ONES.substring(2) + ",2;").canon(0, 1, 11), 12);
        for (int k : new int[] {-1, 12, MIN, MAX}) due("canon(0, 1, " + k + ")", x.canon(0, 1, k), OUTSIDE);
    }

    @Says("CANON. UNKNOWN, OUTSIDE.")
    void canonOfTwoRooms() {
        MusicWalls x = of("d0;r1;r1;");
        for (int r : new int[] {-1, 2, 6, MIN, MAX}) {
            due("canon(" + r + ", 0, 0)", x.canon(r, 0, 0), UNKNOWN);
            due("canon(0, " + r + ", 0)", x.canon(0, r, 0), UNKNOWN);
        }
        due("one twice", x.canon(0, 0, 0), UNKNOWN);
        due("one twice", x.canon(1, 1, 0), UNKNOWN);
    }

    // ---- promise 22

    @Says("BEST CANON: the k below the BARS of the second one by which these are most; of like ones the least: k; how many.")
    void bestCanonBelowTheBars() {
        MusicWalls x = of("d0;r5,6;r6,5;r8,8,8;r5;r1,1,1,1,1,1,1,1,1,1,1,5;");
        due("the last k", x.bestCanon(0, 1, 0), 1);
        due("how many", x.bestCanon(0, 1, 1), 2);
        due("none alike: the least k", x.bestCanon(0, 2, 0), 0);
        due("none alike: how many", x.bestCanon(0, 2, 1), 0);
        due("one BAR: k 0", x.bestCanon(0, 3, 0), 0);
        due("one BAR: how many", x.bestCanon(0, 3, 1), 1);
        due("k 11", x.bestCanon(0, 4, 0), 11);
        due("k 11: how many", x.bestCanon(0, 4, 1), 1);
        due("of one BAR", x.bestCanon(3, 0, 0), 0);
        MusicWalls like = of("d0;r5,5;r6,5,6,5;");
        due("of like ones the least", like.bestCanon(0, 1, 0), 0);
        due("of like ones the least: how many", like.bestCanon(0, 1, 1), 1);
        due("of like ones the least, not at 0", of("d0;r5;r6,5,6,5;").bestCanon(0, 1, 0), 1);
    }

    @Says("BEST CANON: what = 0 k, 1 how many. UNKNOWN, OUTSIDE.")
    void bestCanonOfTwoRooms() {
        MusicWalls x = of("d0;r1;r1;");
        for (int what : new int[] {-1, 2, MIN, MAX}) due("bestCanon(0, 1, " + what + ")", x.bestCanon(0, 1, what), OUTSIDE);
        for (int r : new int[] {-1, 2, 6, MIN, MAX}) {
            due("bestCanon(" + r + ", 0, 0)", x.bestCanon(r, 0, 0), UNKNOWN);
            due("bestCanon(0, " + r + ", 0)", x.bestCanon(0, r, 0), UNKNOWN);
        }
        due("one twice", x.bestCanon(1, 1, 0), UNKNOWN);
    }

    // ---- promise 23

    @Says("MATCH: the fewest BARS of the first ROOM that must be LIFTED (or PASTED) so that all its BARS are in CANON by k")
    void matchFromNoneToAll() {
        MusicWalls x = of("d0;r" + ONES + ";r2;r1;u0 " + TWOS + ";");
        due("none must be", x.match(0, 2, 0, 0), 0);
        due("none must be", x.match(0, 2, 11, 1), 0);
        due("all must be", x.match(0, 1, 11, 0), 12);
        due("all must be", x.match(0, 1, 0, 1), 4095);
        x.lift(0, 0);
        x.lift(0, 11);
        due("all but two", x.match(0, 1, 0, 0), 10);
        due("all but two", x.match(0, 1, 0, 1), 4095 - 2049);
        due("two to be PASTED", x.match(0, 2, 0, 0), 2);
        due("two to be PASTED", x.match(0, 2, 0, 1), 2049);
    }

    @Says("MATCH: what = 0 how many, 1 which; NONE. UNKNOWN, OUTSIDE.")
    void noMatch() {
        MusicWalls x = of("d0;r1,2,3;u0 4,5,6;r1,5,9;r1,5,3;r1,2,0;r1,2,3;u3 1,2,3;");
        due("the last BAR cannot", x.match(0, 1, 0, 0), NONE);
        due("the last BAR cannot", x.match(0, 1, 0, 1), NONE);
        due("it can", x.match(0, 2, 0, 1), 2);
        due("by 1 it cannot", x.match(0, 2, 1, 1), NONE);
        due("by 3 round it can", x.match(0, 2, 3, 0), 1);
        due("what UNDER it was not told READS 0", x.match(4, 3, 0, 1), 4);
        due("what UNDER it was told otherwise", x.match(3, 4, 0, 1), 4);
        due("of the first ROOM alone", x.match(2, 0, 0, 0), NONE);
    }

    @Says("MATCH: the fewest BARS of the first ROOM that must be LIFTED (or PASTED) so that all its BARS are in CANON by k")
    void matchTurnsNoBarThatIsRight() {
        MusicWalls x = of("d0;r1,2,3;u0 1,2,3;r1,2,3;");
        due("alike above and UNDER: nothing", x.match(0, 1, 0, 1), 0);
        x.lift(0, 1);
        due("alike above and UNDER: nothing", x.match(0, 1, 0, 0), 0);
    }

    @Says("MATCH: what = 0 how many, 1 which; NONE. UNKNOWN, OUTSIDE.")
    void matchOfTwoRooms() {
        MusicWalls x = of("d0;r1;r1;");
        for (int k : new int[] {-1, 12, MIN, MAX}) due("match(0, 1, " + k + ", 0)", x.match(0, 1, k, 0), OUTSIDE);
        for (int what : new int[] {-1, 2, MIN, MAX}) due("match(0, 1, 0, " + what + ")", x.match(0, 1, 0, what), OUTSIDE);
        for (int r : new int[] {-1, 2, 6, MIN, MAX}) {
            due("match(" + r + ", 0, 0, 0)", x.match(r, 0, 0, 0), UNKNOWN);
            due("match(0, " + r + ", 0, 0)", x.match(0, r, 0, 0), UNKNOWN);
        }
        due("one twice", x.match(0, 0, 0, 0), UNKNOWN);
    }

    // ---- promise 24

    @Says("JOIN of two ROOMS: the most BARS n such that the last n of the first one READ as the first n of the second one.")
    void joinFromNoneToAll() {
        MusicWalls x = of("d0;r1,2,1,2;r3,1;r1,2,1,2;r2;r1,2,1;");
        due("none", x.join(0, 1), 0);
        due("one", x.join(1, 0), 1);
        due("all of both", x.join(0, 2), 4);
        due("all of the shorter second", x.join(0, 3), 1);
        due("none of the shorter first", x.join(3, 0), 0);
        due("all of the shorter first", of("d0;r1,2;r1,2,3;").join(0, 1), 2);
        due("the most, not the least", x.join(4, 0), 3);
        due("the middle does not count", of("d0;r1,2,3;r2,9;").join(0, 1), 0);
        due("twelve", of("d0;r" + ONES + ";r" + ONES + ";").join(0, 1), 12);
        due("rests too", of("d0;r1,0;r0,1;").join(0, 1), 1);
        due("no more than the first one has", of("d0;r0;r0,0;").join(0, 1), 1);
        due("no more than the second one has", of("d0;r0,0;r0;").join(0, 1), 1);
        due("not into the ROOM ahead", of("d0;r" + ONES + ";r1;r1,1,1;").join(1, 2), 1);
    }

    @Says("JOIN. UNKNOWN.")
    void joinOfTwoRooms() {
        MusicWalls x = of("d0;r1;r1;");
        for (int r : new int[] {-1, 2, 6, MIN, MAX}) {
            due("join(" + r + ", 0)", x.join(r, 0), UNKNOWN);
            due("join(0, " + r + ")", x.join(0, r), UNKNOWN);
        }
        due("one twice", x.join(0, 0), UNKNOWN);
        due("one twice", x.join(1, 1), UNKNOWN);
    }

    // ---- promise 25

    @Says("have fewest BARS; of like ones the least number: how many BARS; the ORDER; NONE: no ROOMS.")
    void noRoomsNoOrder() {
        due("without a HOUSE", new MusicWalls().shortest(0), NONE);
        due("without a HOUSE", new MusicWalls().shortest(1), NONE);
        due("without ROOMS", of("d0;").shortest(0), NONE);
        due("without ROOMS", of("d0;").shortest(1), NONE);
    }

    @Says("(as figures from the first on, each 1 more than the ROOM)")
    void ordersOfOneToSix() {
        MusicWalls one = of("d0;r1,1;");
        due("one", one.shortest(0), 2);
        due("one", one.shortest(1), 1);
        MusicWalls two = of("d0;r2,3;r1,2;");
        due("two", two.shortest(0), 3);
        due("two", two.shortest(1), 21);
        MusicWalls six = of("d0;r6,7;r5,6;r4,5;r3,4;r2,3;r1,2;");
        due("six", six.shortest(0), 7);
        due("six", six.shortest(1), 654321);
        String room = "r" + ONES + ";";
        MusicWalls all = of("d0;" + room + room + room + room + room + room);
        due("all over one another", all.shortest(0), 12);
        due("all over one another", all.shortest(1), 123456);
        MusicWalls none = of("d0;" + room + "r" + TWOS + ";" + room.replace('1', '3') + room.replace('1', '4'));
        due("nothing JOINS", none.shortest(0), 48);
    }

    @Says("have fewest BARS; of like ones the least number: how many BARS; the ORDER; NONE: no ROOMS.")
    void ofLikeOrdersTheLeast() {
        due("nothing JOINS", of("d0;r1;r2;r3;r4;r5;r6;").shortest(1), 123456);
        due("the pair ahead", of("d0;r1,2;r5;r2,3;").shortest(1), 132);
        due("the pair behind", of("d0;r5;r2,3;r1,2;").shortest(1), 132);
        due("two pairs", of("d0;r3,4;r2,3;r8,9;r7,8;").shortest(1), 2143);
        due("round: where to begin", of("d0;r1,2;r2,3;r3,1;").shortest(1), 123);
        due("round the other way", of("d0;r2,1;r3,2;r1,3;").shortest(1), 132);
    }

    @Says("have fewest BARS; of like ones the least number: how many BARS; the ORDER; NONE: no ROOMS.")
    void theMostBarsThatThereCanBe() {
        StringBuilder text = new StringBuilder("d0;");
        for (int i = 1; i <= 6; i++) text.append("r").append(i).append(",0,0,0,0,0,0,0,0,0,0,").append(i).append(";");
        MusicWalls none = of(text.toString());
        due("nothing JOINS", none.shortest(0), 72);
        due("nothing JOINS", none.shortest(1), 123456);
        MusicWalls one = of(text.toString().replaceFirst("r1", "r2"));
        due("ROOM 1 by one over ROOM 0", one.shortest(0), 71);
        due("ROOM 1 by one over ROOM 0", one.shortest(1), 213456);
    }

    @Says("each over the end of the one ahead by their JOIN")
    void eachOverTheOneAheadByItsJoin() {
        MusicWalls x = of("d0;r1,2,3,4;r2,3;r3,4,5;");
        // ROOM 2 over ROOM 0 by two, ROOM 1 by none: 4 + 1 + 2 BARS; ROOM 2 over ROOM 1 is one alone.
        due("how many", x.shortest(0), 7);
        due("ORDER", x.shortest(1), 132);
        due("not the nearest first, all of it", of("d0;r9,1,1;r1,1,5;r1,5,9,9;r1,1,1,9;").shortest(0), 9);
    }

    @Says("SHORTEST: what = 0 how many, 1 the ORDER; NONE. OUTSIDE.")
    void shortestFrom0To1() {
        for (int what : new int[] {-1, 2, MIN, MAX}) {
            due("shortest(" + what + ")", of("d0;r1;").shortest(what), OUTSIDE);
            due("without ROOMS", new MusicWalls().shortest(what), OUTSIDE);
        }
    }

    // ---- promise 26

    @Says("NEAREST: the other ROOM whose KEY is nearest (round the twelve); of like ones the least; NONE.")
    void nearestRoundTheTwelve() {
        due("no other", of("d0;r1;").nearest(0), NONE);
        due("six away", of("d0;r0;r6;").nearest(0), 1);
        due("six away", of("d0;r6;r0;").nearest(0), 1);
        due("11 and 0", of("d0;r0;r2;r9,2;").nearest(0), 2);
        due("0 and 11", of("d0;r9,2;r9;r0;").nearest(0), 2);
        due("of like ones the least, below and above", of("d0;r6;r9;r3;").nearest(0), 1);
        due("of like ones the least, round", of("d0;r1;r9,2;r3;").nearest(0), 1);
        due("of alike ones the least", of("d0;r1;r1;r1;").nearest(2), 0);
        due("not itself", of("d0;r1;r1;r1;").nearest(0), 1);
        due("the last", of("d0;r1;r7;r6;r5;r4;r3;").nearest(0), 5);
    }

    @Says("NEAREST; NONE. UNKNOWN.")
    void nearestOfARoom() {
        MusicWalls x = of("d0;r1;r1;");
        for (int r : new int[] {-1, 2, 6, MIN, MAX}) due("nearest(" + r + ")", x.nearest(r), UNKNOWN);
        due("without a HOUSE", new MusicWalls().nearest(0), UNKNOWN);
    }

    // ---- promise 27

    @Says("each step to one whose KEY is no more than 2 away (round the twelve): the fewest steps; NONE.")
    void stepsOfNoMoreThan2() {
        due("0 away", of("d0;r5;r5;").modulation(0, 1), 1);
        due("2 away", of("d0;r5;r7;").modulation(0, 1), 1);
        due("2 away", of("d0;r7;r5;").modulation(0, 1), 1);
        due("3 away", of("d0;r5;r8;").modulation(0, 1), NONE);
        due("6 away", of("d0;r0;r6;").modulation(0, 1), NONE);
        due("2 away round", of("d0;r9,2;r1;").modulation(0, 1), 1);
        due("2 away round", of("d0;r0;r9,1;").modulation(0, 1), 1);
        due("3 away round", of("d0;r9,2;r2;").modulation(0, 1), NONE);
    }

    @Says("MODULATION: of ROOMS from one to another,")
    void fromOneStepToFive() {
        MusicWalls x = of("d0;r0;r2;r4;r6;r8;r9;");
        like("from ROOM 0", answers(5, s -> x.modulation(0, s)), "0 1 2 3 4 5");
        like("from ROOM 5", answers(5, s -> x.modulation(5, s)), "5 4 3 2 1 0");
        MusicWalls fewest = of("d0;r0;r1;r2;r3;r4;");
        due("the fewest", fewest.modulation(0, 4), 2);
        due("either way round", of("d0;r0;r2;r4;r6;r8;r9,1;").modulation(0, 4), 2);
        x.lift(2, 0);
        due("LIFTED", x.modulation(0, 3), NONE);
    }

    @Says("MODULATION (from a ROOM to itself: 0); NONE. UNKNOWN.")
    void fromARoomToItself() {
        due("one ROOM", of("d0;r1;").modulation(0, 0), 0);
        MusicWalls x = of("d0;r1;r1;");
        due("to itself", x.modulation(1, 1), 0);
        for (int r : new int[] {-1, 2, 6, MIN, MAX}) {
            due("modulation(" + r + ", 0)", x.modulation(r, 0), UNKNOWN);
            due("modulation(0, " + r + ")", x.modulation(0, r), UNKNOWN);
            due("modulation(" + r + ", " + r + ")", x.modulation(r, r), UNKNOWN);
        }
    }

    // ---- promise 28

    @Says("SOUNDS: PERSONS (a SET) at a BAR that READS as a number (0 .. 9).")
    void soundsFrom0To9() {
        MusicWalls x = of("d0;r0,9;p0 0 0;p0 1 0;p0 1 0;p0 1 0;p0 0 0;");
        due("sounds(0)", x.sounds(0), 17);
        due("sounds(9)", x.sounds(9), 14);
        due("sounds(5)", x.sounds(5), 0);
        x.lift(0, 1);
        due("LIFTED", x.sounds(0), 31);
        due("nobody", of("d0;r0;").sounds(0), 0);
        due("without a HOUSE", new MusicWalls().sounds(0), 0);
    }

    @Says("SOUNDS. OUTSIDE.")
    void soundsOutside() {
        MusicWalls x = of("d0;r0,9;p0 0 0;");
        for (int n : new int[] {-1, 10, MIN, MAX}) due("sounds(" + n + ")", x.sounds(n), OUTSIDE);
        due("without a HOUSE", new MusicWalls().sounds(10), OUTSIDE);
    }

    // ---- promise 29

    @Says("DRY: odds of n (0 .. 60) days without DAMP, each by q of a hundred (0 .. 100): a BILLION times q / 100 each (cut).")
    void dryFrom0To60() {
        MusicWalls x = new MusicWalls();
        due("no days", x.dry(0, 0), 1000000000);
        due("no days", x.dry(0, 100), 1000000000);
        due("one day, 0", x.dry(1, 0), 0);
        due("one day, 1", x.dry(1, 1), 10000000);
        due("one day, 99", x.dry(1, 99), 990000000);
        due("60 days, 100", x.dry(60, 100), 1000000000);
        due("60 days, 0", x.dry(60, 0), 0);
        due("4 days, 1", x.dry(4, 1), 10);
        due("5 days, 1", x.dry(5, 1), 0);
        due("60 days, 99", x.dry(60, 99), 547156620);
    }

    @Says("a BILLION times q / 100 each (cut).")
    void dryIsCutEachTime() {
        MusicWalls x = new MusicWalls();
        due("5 days, 99", x.dry(5, 99), 950990049);
        due("6 days, 99: .51 is cut", x.dry(6, 99), 941480148);
        due("6 days, 43", x.dry(6, 43), 6321362);
        due("7 days, 26", x.dry(7, 26), 80317);
    }

    @Says("DRY. OUTSIDE.")
    void dryOutside() {
        MusicWalls x = new MusicWalls();
        for (int n : new int[] {-1, 61, MIN, MAX}) due("dry(" + n + ", 50)", x.dry(n, 50), OUTSIDE);
        for (int q : new int[] {-1, 101, MIN, MAX}) due("dry(1, " + q + ")", x.dry(1, q), OUTSIDE);
        due("dry(0, 101)", x.dry(0, 101), OUTSIDE);
    }
}
