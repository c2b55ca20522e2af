/** Edges of promises 5 to 10, and of what is told of ROOMS by themselves. */
final class HouseEdges extends Edge {
    private static final String ONES = "1,1,1,1,1,1,1,1,1,1,1,1", NINES = ONES.replace('1', '9'), RESTS = ONES.replace('1', '0');

    @Says("What has a number has it from 0 on, as it comes.")
    void numbersAsTheyCome() {
        MusicWalls x = of("d0;r3;r5,6;p1 1 2;r7;p0 0 4;w2 0 1 0;w1 1 0 0;");
        like("what ROOMS READ", answers(2, r -> x.bar(r, 0, 2)), "3 5 7");
        like("the P of PERSONS", answers(1, p -> x.person(p, 2)), "2 4");
        like("the R of WALLS", answers(1, w -> x.wall(w, 0)), "2 1");
    }

    @Says("A SET is a whole number, bit k for k.")
    void setsFromTheFirstToTheLast() {
        MusicWalls x = of("d0;r1,2;r" + ONES + ";r1;r1;r1;r1,2;p0 0 0;p1 0 0;p1 0 0;p1 0 0;p0 0 0;");
        due("OPEN", x.told(8), 1 + 32);
        x.lift(1, 0);
        x.lift(1, 11);
        due("LIFTED", x.room(1, 1), 1 + 2048);
        due("SOUNDS", x.sounds(1), 1 + 16);
        x.see(0, 2);
        due("PLACES", x.places(2), 1 + 32);
    }

    @Says("6 ROOMS at most: its PAPER: BARS 0 on, 1 to 12 numbers,")
    void sixRoomsOfTwelve() {
        String nought = ";r0,0,0,0,0,0,0,0,0,0,0,0";
        MusicWalls x = of("d0" + nought + nought + nought + nought + nought + ";r" + ONES + ";u5 " + NINES + ";");
        like("the last PAPER", answers(11, b -> x.bar(5, b, 0)), "1 1 1 1 1 1 1 1 1 1 1 1");
        like("UNDER it", answers(11, b -> x.bar(5, b, 1)), "9 9 9 9 9 9 9 9 9 9 9 9");
        due("lift(5, 11)", x.lift(5, 11), 9);
        due("lift(0, 0)", x.lift(0, 0), 0);
        like("LIFTED", answers(5, r -> x.room(r, 1)), "1 0 0 0 0 2048");
        due("LIFTED in all", x.told(9), 2);
        due("KEY", x.room(5, 2), 8);
        due("OPEN", x.told(8), 32);
    }

    // ---- promise 5

    @Says("13 how many can be undone. OUTSIDE.")
    void toldFrom0To13() {
        MusicWalls x = of("d7;r1,2;");
        due("told(0)", x.told(0), 7);
        due("told(13)", x.told(13), 0);
        for (int what : new int[] {-1, 14, MIN, MAX}) due("told(" + what + ")", x.told(what), OUTSIDE);
    }

    @Says("0 D (NONE without a HOUSE)")
    void noDWithoutAHouse() {
        due("without", new MusicWalls().told(0), NONE);
        due("D 0", of("d0;").told(0), 0);
        MusicWalls x = new MusicWalls();
        housed(x, "d5");
        due("with a FAULT", x.told(0), NONE);
    }

    @Says("4 letters of THE TEXT, 5 HOURS, 6 MET, 7 how many THE LOG has")
    void theLogHas20AtMost() {
        MusicWalls x = of("d0;r1;r1;p0 0 0;p1 0 0;w0 0 1 0;");
        due("empty", x.told(7), 0);
        x.hour(19);
        due("19", x.told(7), 19);
        x.hour(1);
        due("20", x.told(7), 20);
        x.hour(1);
        due("still 20", x.told(7), 20);
        due("MET", x.told(6), 21);
        x.hour(30);
        due("still 20", x.told(7), 20);
    }

    @Says("9 BARS that are LIFTED in all")
    void liftedInAllFromNoneToAll() {
        MusicWalls x = of("d1;r" + ONES + ";r1;");
        due("none", x.told(9), 0);
        x.hour(1);
        due("one", x.told(9), 1);
        x.hour(1);
        due("two", x.told(9), 2);
        x.hour(30);
        due("all", x.told(9), 13);
    }

    @Says("OPEN: ROOMS (a SET) whose last BAR READS otherwise than BAR 0.")
    void openRooms() {
        due("no ROOMS", of("d0;").told(8), 0);
        due("one BAR is never OPEN", of("d0;r1;").told(8), 0);
        due("two alike", of("d0;r1,1;").told(8), 0);
        due("two unlike", of("d0;r1,2;").told(8), 1);
        due("all six", of("d0;r1,2;r0,1;r1,0;r9,8;r1,1,2;r1,2,1,2;").told(8), 63);
        MusicWalls x = of("d0;r" + ONES.substring(2) + ",2;u0 " + ONES + ";");
        due("twelve", x.told(8), 1);
        x.lift(0, 11);
        due("the last LIFTED", x.told(8), 0);
    }

    @Says("MOST READ: the number 1 to 9 that most BARS of all ROOMS READ; of like ones the least; NONE: none does.")
    void mostRead() {
        due("no ROOMS", of("d0;").told(10), NONE);
        due("rests alone", of("d0;r" + RESTS + ";").told(10), NONE);
        due("1 among rests", of("d0;r0,0,0,1;").told(10), 1);
        due("9 among rests", of("d0;r0,0,9,0;").told(10), 9);
        due("of like ones the least", of("d0;r9,8,0,0,0;r8,9;").told(10), 8);
        due("of like ones the least", of("d0;r9,1;").told(10), 1);
        due("by one more", of("d0;r1,9;r9;").told(10), 9);
        due("BAR 0 alone", of("d0;r5;").told(10), 5);
        due("the last BAR of the last ROOM", of("d0;r5,6;r4,6;").told(10), 6);
        due("each BAR once", of("d0;r5,1,0,0,0,0,0,0,0,0,0,1;r5,0;").told(10), 1);
        due("each BAR once", of("d0;r2;r1,0,0,0,0,0,0,0,0,0,0,2;r1;").told(10), 1);
        MusicWalls x = of("d0;r4;");
        x.lift(0, 0);
        due("nothing UNDER it", x.told(10), NONE);
    }

    // ---- promise 6

    @Says("4 1 what is UNDER it was told, 0 not. UNKNOWN, OUTSIDE.")
    void roomFrom0To4() {
        MusicWalls x = of("d0;r1,2;r3;u1 4;");
        like("room(0, ..)", answers(4, what -> x.room(0, what)), "2 0 3 2 0");
        like("room(1, ..)", answers(4, what -> x.room(1, what)), "1 0 3 1 1");
        for (int what : new int[] {-1, 5, MIN, MAX}) due("room(1, " + what + ")", x.room(1, what), OUTSIDE);
        for (int r : new int[] {-1, 2, 6, MIN, MAX}) due("room(" + r + ", 0)", x.room(r, 0), UNKNOWN);
    }

    @Says("1 which are LIFTED (a SET)")
    void whichAreLifted() {
        MusicWalls x = of("d0;r" + ONES + ";r1;");
        due("none", x.room(0, 1), 0);
        for (int b = 0; b < 12; b++) {
            x.lift(0, b);
            due("to " + b, x.room(0, 1), (2 << b) - 1);
        }
        due("of the other", x.room(1, 1), 0);
        x.paste(0, 0);
        due("without 0", x.room(0, 1), 4094);
    }

    @Says("KEY of a ROOM: all that its BARS READ together, left over by 12.")
    void keyLeftOverBy12() {
        due("0", of("d0;r0;").room(0, 2), 0);
        due("11", of("d0;r9,2;").room(0, 2), 11);
        due("12", of("d0;r9,3;").room(0, 2), 0);
        due("13", of("d0;r9,4;").room(0, 2), 1);
        due("108", of("d0;r" + NINES + ";").room(0, 2), 0);
        due("107", of("d0;r" + NINES.substring(2) + ",8;").room(0, 2), 11);
        MusicWalls three = of("d0;r" + NINES + ";r" + ONES.substring(2) + ",2;r5;");
        due("its own BARS alone", three.room(1, 2), 1);
        due("its own BARS alone", three.room(2, 2), 5);
        MusicWalls x = of("d0;r9,3;u0 9,0;");
        x.lift(0, 1);
        due("LIFTED", x.room(0, 2), 9);
    }

    @Says("REPEAT of a ROOM: the least p (1 on) such that each BAR READS as the one p on, round.")
    void repeatFrom1ToTheBars() {
        due("one BAR", of("d0;r5;").room(0, 3), 1);
        due("two alike", of("d0;r5,5;").room(0, 3), 1);
        due("two unlike", of("d0;r5,6;").room(0, 3), 2);
        due("twelve alike", of("d0;r" + ONES + ";").room(0, 3), 1);
        due("the last unlike", of("d0;r" + ONES.substring(2) + ",2;").room(0, 3), 12);
        due("the first unlike", of("d0;r2," + ONES.substring(2) + ";").room(0, 3), 12);
        due("by six", of("d0;r1,2,1,1,1,1,1,2,1,1,1,1;").room(0, 3), 6);
        due("by three", of("d0;r1,2,3,1,2,3;").room(0, 3), 3);
        due("alike only until it comes round", of("d0;r1,2,1;").room(0, 3), 3);
        due("alike only until it comes round", of("d0;r1,2,3,1,2,3,1,2;").room(0, 3), 8);
        MusicWalls x = of("d0;r1,2,1,3;u0 0,0,0,2;");
        x.lift(0, 3);
        due("LIFTED", x.room(0, 3), 2);
    }

    // ---- promise 7

    @Says("2 what it READS. UNKNOWN, OUTSIDE.")
    void barFrom0To2() {
        MusicWalls x = of("d0;r" + ONES + ";r3;u1 4;");
        like("bar(1, 0, ..)", answers(2, what -> x.bar(1, 0, what)), "3 4 3");
        like("bar(0, 11, ..)", answers(2, what -> x.bar(0, 11, what)), "1 0 1");
        for (int what : new int[] {-1, 3, MIN, MAX}) due("bar(1, 0, " + what + ")", x.bar(1, 0, what), OUTSIDE);
        for (int b : new int[] {-1, 1, 11, MIN, MAX}) due("bar(1, " + b + ", 0)", x.bar(1, b, 0), UNKNOWN);
        for (int b : new int[] {-1, 12, 13, MIN, MAX}) due("bar(0, " + b + ", 0)", x.bar(0, b, 0), UNKNOWN);
        for (int r : new int[] {-1, 2, MIN, MAX}) due("bar(" + r + ", 0, 0)", x.bar(r, 0, 0), UNKNOWN);
    }

    @Says("1 what is UNDER it (0: nothing was told)")
    void nothingToldIsUnderIt() {
        MusicWalls x = of("d0;r5,6;r7,8;u1 1,0;");
        due("not told", x.bar(0, 0, 1), 0);
        due("not told", x.bar(0, 1, 1), 0);
        due("told", x.bar(1, 0, 1), 1);
        due("told: a rest", x.bar(1, 1, 1), 0);
        due("not told", x.room(0, 4), 0);
        due("told", x.room(1, 4), 1);
        due("a rest told is told", of("d0;r5;u0 0;").room(0, 4), 1);
    }

    @Says("LIFTED, that of what is UNDER it (0, if nothing was told).")
    void liftedWithNothingUnder() {
        MusicWalls x = of("d0;r5,6;r7,8;u1 1,2;");
        x.lift(0, 1);
        x.lift(1, 0);
        like("what ROOM 0 READS", answers(1, b -> x.bar(0, b, 2)), "5 0");
        like("what ROOM 1 READS", answers(1, b -> x.bar(1, b, 2)), "1 8");
        due("its PAPER", x.bar(0, 1, 0), 6);
    }

    @Says("A BAR is LIFTED or not (not at first).")
    void notLiftedAtFirst() {
        MusicWalls x = of("d1;r1,2;u0 3,4;");
        due("LIFTED", x.room(0, 1), 0);
        like("what it READS", answers(1, b -> x.bar(0, b, 2)), "1 2");
        due("paste(0, 0)", x.paste(0, 0), NOT);
    }

    // ---- promise 8

    @Says("3 what it READS there. UNKNOWN, OUTSIDE.")
    void personFrom0To3() {
        MusicWalls x = of("d0;r1;r4,5;p1 1 9;p0 0 0;");
        like("person(0, ..)", answers(3, what -> x.person(0, what)), "1 1 9 5");
        like("person(1, ..)", answers(3, what -> x.person(1, what)), "0 0 0 1");
        for (int what : new int[] {-1, 4, MIN, MAX}) due("person(0, " + what + ")", x.person(0, what), OUTSIDE);
        for (int p : new int[] {-1, 2, 5, MIN, MAX}) due("person(" + p + ", 0)", x.person(p, 0), UNKNOWN);
        x.lift(1, 1);
        due("LIFTED", x.person(0, 3), 0);
    }

    // ---- promise 9

    @Says("Of a WALL: what = 0 R, 1 A, 2 S, 3 B. UNKNOWN, OUTSIDE.")
    void wallFrom0To3() {
        MusicWalls x = of("d0;r1;r4,5,6;w1 2 0 0;w0 0 1 1;");
        like("wall(0, ..)", answers(3, what -> x.wall(0, what)), "1 2 0 0");
        like("wall(1, ..)", answers(3, what -> x.wall(1, what)), "0 0 1 1");
        for (int what : new int[] {-1, 4, MIN, MAX}) due("wall(0, " + what + ")", x.wall(0, what), OUTSIDE);
        for (int w : new int[] {-1, 2, 6, MIN, MAX}) due("wall(" + w + ", 0)", x.wall(w, 0), UNKNOWN);
    }

    // ---- promise 10

    @Says("Of THE LOG, 0 the latest: what = 0 the WALL, 1 who at A, 2 who at B; NONE. OUTSIDE (what).")
    void theLogFrom0To19() {
        MusicWalls x = of("d0;r1,1;r1,1;p0 0 1;p1 0 1;p1 0 1;w0 0 1 0;w0 1 1 1;");
        due("empty", x.logged(0, 0), NONE);
        x.hour(1);
        like("the latest", answers(2, what -> x.logged(0, what)), "1 0 2");
        like("the one before", answers(2, what -> x.logged(1, what)), "1 0 1");
        due("none behind it", x.logged(2, 0), NONE);
        for (int i : new int[] {-1, 2, 20, MIN, MAX}) {
            like("logged(" + i + ", ..)", answers(2, what -> x.logged(i, what)), "-1 -1 -1");
        }
        for (int what : new int[] {-1, 3, MIN, MAX}) {
            due("logged(0, " + what + ")", x.logged(0, what), OUTSIDE);
            due("logged(9, " + what + ")", x.logged(9, what), OUTSIDE);
        }
    }

    @Says("THE LOG keeps the latest 20: WALL, who, who.")
    void the21stDropsTheEarliest() {
        MusicWalls x = of("d0;r1,1;r1,1;p0 0 1;p1 0 1;p1 0 1;w0 0 1 0;w0 1 1 1;w1 1 0 1;");
        // An odd HOUR: WALL 1 with 0 1, 0 2, WALL 2 with 1 0, 2 0; an even one: WALL 0 with 0 1, 0 2.
        x.hour(6);
        due("18", x.told(7), 18);
        like("the earliest", answers(2, what -> x.logged(17, what)), "1 0 1");
        x.hour(1);
        due("20", x.told(7), 20);
        due("MET", x.told(6), 22);
        like("the third ever", answers(2, what -> x.logged(19, what)), "2 1 0");
        due("the second ever is gone", x.logged(20, 0), NONE);
        like("the latest", answers(2, what -> x.logged(0, what)), "2 2 0");
        x.hour(1);
        like("the fifth ever", answers(2, what -> x.logged(19, what)), "0 0 1");
        like("the WALLS, the latest first", answers(19, i -> x.logged(i, 0)), "0 0 2 2 1 1 0 0 2 2 1 1 0 0 2 2 1 1 0 0");
    }

    @Says("Of THE LOG, 0 the latest: what = 0 the WALL, 1 who at A, 2 who at B; NONE. OUTSIDE (what).")
    void theFirstAndTheLastOfAll() {
        MusicWalls x = of("d0;r1;r1;p0 0 0;p1 0 0;p0 0 0;p0 0 0;p1 0 0;w0 0 1 0;w0 0 1 0;w0 0 1 0;w0 0 1 0;w0 0 1 0;w1 0 0 0;");
        x.hour(1);
        like("the WALLS", answers(19, i -> x.logged(i, 0)), "5 5 5 5 5 5 4 4 4 4 4 4 3 3 3 3 3 3 2 2");
        like("who at A", answers(19, i -> x.logged(i, 1)), "4 4 4 1 1 1 3 3 2 2 0 0 3 3 2 2 0 0 3 3");
        like("who at B", answers(19, i -> x.logged(i, 2)), "3 2 0 3 2 0 4 1 4 1 4 1 4 1 4 1 4 1 4 1");
    }
}
