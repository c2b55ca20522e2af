/** Edges of promises 11 to 17 and of section 2 of the document. */
final class DeedEdges extends Edge {
    private static final String ONES = "1,1,1,1,1,1,1,1,1,1,1,1";

    private int barBehind(String text, int hours) {
        MusicWalls x = of(text);
        x.hour(hours);
        return x.person(0, 1);
    }

    // ---- promise 11: who goes

    @Says("round its ROOM (behind the last comes BAR 0)")
    void behindTheLastComesBar0() {
        due("from the last, 1", barBehind("d0;r1,2,3;p0 2 1;", 1), 0);
        due("to the last, 2", barBehind("d0;r1,2,3;p0 0 2;", 1), 2);
        due("3 of 3", barBehind("d0;r1,2,3;p0 1 3;", 1), 1);
        due("9 of 2: four times round", barBehind("d0;r1,2;p0 0 9;", 1), 1);
        due("9 of 1", barBehind("d0;r1;p0 0 9;", 1), 0);
        due("9 of 12", barBehind("d0;r" + ONES + ";p0 11 9;", 1), 8);
        due("twice", barBehind("d0;r" + ONES + ";p0 11 9;", 2), 5);
    }

    @Says("goes P BARS an HOUR, 0 .. 9)")
    void pOf0Stays() {
        due("P 0", barBehind("d0;r1,2,3;p0 1 0;", 30), 1);
        due("P 0 at a rest", barBehind("d0;r1,0,3;p0 1 0;", 30), 1);
    }

    @Says("but stops at a BAR that READS 0 (also if it could go on;")
    void stopsAtARest() {
        due("1 on", barBehind("d0;r1,0,3,4;p0 0 9;", 1), 1);
        due("2 on", barBehind("d0;r1,2,0,4;p0 0 9;", 1), 2);
        due("as far as it goes", barBehind("d0;r1,2,0,4;p0 0 2;", 1), 2);
        due("not so far", barBehind("d0;r1,2,0,4;p0 0 1;", 1), 1);
        due("round, at BAR 0", barBehind("d0;r0,2,3,4;p0 2 9;", 1), 0);
        due("at the last BAR", barBehind("d0;r1,2,3,0;p0 0 9;", 1), 3);
        due("a rest alone", barBehind("d0;r0;p0 0 9;", 1), 0);
    }

    @Says("one that is at such a BAR goes on from it)")
    void goesOnFromARest() {
        due("from it", barBehind("d0;r1,0,3,4,5;p0 1 2;", 1), 3);
        due("from it to the next", barBehind("d0;r1,0,0,4,5;p0 1 9;", 1), 2);
        due("from it round to it", barBehind("d0;r1,0,3;p0 1 9;", 1), 1);
        due("from the last", barBehind("d0;r1,2,0;p0 2 1;", 1), 0);
        due("rests alone, one by one", barBehind("d0;r0,0,0;p0 0 9;", 2), 2);
        due("HOUR by HOUR", barBehind("d0;r1,0,3,4;p0 0 3;", 2), 0);
    }

    @Says("but stops at a BAR that READS 0 (also if it could go on;")
    void whatIsReadNowStops() {
        MusicWalls x = of("d0;r1,0,3,4;u0 0,5,0,0;p0 0 2;");
        x.lift(0, 1);
        x.lift(0, 2);
        x.hour(1);
        due("LIFTED rest lets go on, LIFTED paper stops", x.person(0, 1), 2);
        x.paste(0, 2);
        x.hour(1);
        due("from there", x.person(0, 1), 0);
    }

    // ---- who MEETS

    @Says("Then WALL by WALL each PERSON at its BAR A MEETS each one at its BAR B (PERSON by PERSON)")
    void whoMeets() {
        MusicWalls x = of("d0;r1;r1;p1 0 0;p0 0 0;p0 0 0;p1 0 0;p1 0 0;w1 0 0 0;w0 0 1 0;");
        due("hour(1)", x.hour(1), 12);
        like("the WALLS", answers(11, i -> x.logged(11 - i, 0)), "0 0 0 0 0 0 1 1 1 1 1 1");
        like("who at A", answers(11, i -> x.logged(11 - i, 1)), "0 0 3 3 4 4 1 1 1 2 2 2");
        like("who at B", answers(11, i -> x.logged(11 - i, 2)), "1 2 1 2 1 2 0 3 4 0 3 4");
    }

    @Says("Then WALL by WALL each PERSON at its BAR A MEETS each one at its BAR B (PERSON by PERSON)")
    void whoDoesNotMeet() {
        due("nobody at B", of("d0;r1;r1;p0 0 0;p0 0 0;w0 0 1 0;").hour(1), 0);
        due("nobody at A", of("d0;r1;r1;p1 0 0;p1 0 0;w0 0 1 0;").hour(1), 0);
        due("at another BAR of A's ROOM", of("d0;r1,1;r1;p0 1 0;p1 0 0;w0 0 1 0;").hour(1), 0);
        due("at another BAR of B's ROOM", of("d0;r1;r1,1;p0 0 0;p1 1 0;w0 0 1 0;").hour(1), 0);
        due("A's BAR, another ROOM", of("d0;r1;r1;r1;p2 0 0;p1 0 0;w0 0 1 0;").hour(1), 0);
        due("B's BAR, another ROOM", of("d0;r1;r1;r1;p0 0 0;p2 0 0;w0 0 1 0;").hour(1), 0);
        due("no WALL", of("d0;r1;r1;p0 0 0;p1 0 0;").hour(1), 0);
        due("in one ROOM", of("d0;r1;r1;p0 0 0;p0 0 0;w0 0 1 0;").hour(30), 0);
        due("who goes by", of("d0;r1,1,1;r1;p0 0 2;p1 0 0;w0 1 1 0;").hour(1), 0);
        due("who was there ahead of the HOUR", of("d0;r1,1,1;r1;p0 0 1;p1 0 0;w0 0 1 0;").hour(1), 0);
    }

    @Says("Then WALL by WALL each PERSON at its BAR A MEETS each one at its BAR B (PERSON by PERSON)")
    void allGoAheadOfTheWalls() {
        due("both come", of("d0;r1,1;r1,1;p0 0 1;p1 0 1;w0 1 1 1;").hour(1), 1);
        due("both leave", of("d0;r1,1;r1,1;p0 0 1;p1 0 1;w0 0 1 0;").hour(1), 0);
        due("one WALL twice", of("d0;r1;r1;p0 0 0;p1 0 0;w0 0 1 0;w0 0 1 0;w1 0 0 0;").hour(1), 3);
        due("at rests too", of("d0;r0;r0;p0 0 1;p1 0 1;w0 0 1 0;").hour(1), 1);
    }

    @Says("MET is counted (999999 at most)")
    void metIs999999AtMost() {
        // That many cannot MEET in 512 calls: what is answered behind them is free, the class keeps to it all the same.
        String walls = "w0 0 1 0;w0 0 1 0;w0 0 1 0;w0 0 1 0;w0 0 1 0;w0 0 1 0;";
        MusicWalls x = of("d0;r1;r1;p0 0 0;p0 0 0;p1 0 0;p1 0 0;p1 0 0;" + walls);
        due("36 an HOUR", x.hour(1), 36);
        times(27776, () -> x.hour(1));
        due("MET", x.told(6), 999972);
        due("no more than", x.hour(1), 999999);
        due("no more than", x.hour(30), 999999);
        due("MEETS", x.meets(2), 72);
        due("THE LOG goes on", x.logged(0, 1), 1);
        due("undo(30)", x.undo(30), 27778);
        due("MET", x.told(6), 999999);
    }

    // ---- HOURS, DAMP

    @Says("and if D is not 0, and HOURS / D have no rest, DAMP k (HOURS / D less 1) LIFTS a BAR")
    void dampEachDHours() {
        MusicWalls x = of("d99;r1,1;");
        times(3, () -> x.hour(30));
        x.hour(8);
        due("98 HOURS", x.told(9), 0);
        x.hour(1);
        due("99 HOURS", x.room(0, 1), 1);
        times(3, () -> x.hour(30));
        x.hour(8);
        due("197 HOURS", x.room(0, 1), 1);
        x.hour(1);
        due("198 HOURS", x.room(0, 1), 3);
        MusicWalls each = of("d1;r" + ONES + ";");
        for (int i = 0; i < 12; i++) {
            each.hour(1);
            due("HOUR " + (i + 1), each.room(0, 1), (2 << i) - 1);
        }
        MusicWalls second = of("d2;r1,1,1;");
        int[] lifted = {0, 1, 1, 3, 3, 7, 7, 7};
        for (int i = 0; i < lifted.length; i++) {
            second.hour(1);
            due("D 2, HOUR " + (i + 1), second.room(0, 1), lifted[i]);
        }
    }

    @Says("DAMP each D HOURS, 1 .. 99; 0: none;")
    void noDampByD0() {
        MusicWalls x = of("d0;r1,1;");
        times(10, () -> x.hour(30));
        due("HOURS", x.told(5), 300);
        due("LIFTED", x.told(9), 0);
    }

    @Says("LIFTS a BAR (nothing, if it is LIFTED)")
    void dampLeavesALiftedBar() {
        MusicWalls x = of("d1;r1,1;");
        x.lift(0, 0);
        x.hour(1);
        due("LIFTED by hand", x.room(0, 1), 1);
        x.hour(2);
        due("LIFTED by DAMP, round", x.room(0, 1), 3);
        x.paste(0, 0);
        x.hour(1);
        due("the other BAR", x.room(0, 1), 2);
        x.hour(1);
        due("PASTED, LIFTED again", x.room(0, 1), 3);
    }

    @Says("of the ROOM that is k left over by how many there are, the BAR that is k / how many ROOMS, left over by its BARS.")
    void whichBarDampLifts() {
        MusicWalls x = of("d1;r1;r1,1,1;r1,1;");
        String[] lifted = {"1 0 0", "1 1 0", "1 1 1", "1 1 1", "1 3 1", "1 3 3", "1 3 3", "1 7 3", "1 7 3"};
        for (int i = 0; i < lifted.length; i++) {
            x.hour(1);
            like("HOUR " + (i + 1), answers(2, r -> x.room(r, 1)), lifted[i]);
        }
        // HOUR 12: k 11, ROOM 2, k / 3 is 3, left over by 2: BAR 1. HOUR 11: k 10, ROOM 1, 3 left over by 3: BAR 0.
        times(2, () -> x.hour(1));
        x.paste(1, 0);
        x.paste(2, 1);
        x.undo(2);
        x.undo(1);
        x.paste(1, 0);
        x.paste(2, 1);
        x.hour(1);
        like("HOUR 11", answers(2, r -> x.room(r, 1)), "1 7 1");
        x.hour(1);
        like("HOUR 12", answers(2, r -> x.room(r, 1)), "1 7 3");
    }

    @Says("of the ROOM that is k left over by how many there are, the BAR that is k / how many ROOMS, left over by its BARS.")
    void noRoomsNoDamp() {
        MusicWalls x = of("d1;");
        due("hour(30)", x.hour(30), 0);
        due("HOURS", x.told(5), 30);
        due("drift(30)", x.drift(30), 0);
        due("HOURS", x.told(5), 60);
        due("meets(99)", x.meets(99), 0);
    }

    @Says("Then HOURS are one more,")
    void dampComesBehindTheWay() {
        MusicWalls x = of("d1;r5,5,5;p0 2 9;");
        x.hour(1);
        due("by the BARS as they were", x.person(0, 1), 2);
        due("DAMP", x.room(0, 1), 1);
        x.hour(1);
        due("now BAR 0 is a rest", x.person(0, 1), 0);
    }

    @Says("n HOURS (1 .. 30): MET. OUTSIDE, NOT: no HOUSE;")
    void hoursFrom1To30() {
        MusicWalls x = of("d0;r1;r1;p0 0 0;p1 0 0;w0 0 1 0;");
        due("hour(1)", x.hour(1), 1);
        due("hour(30)", x.hour(30), 31);
        for (int n : new int[] {0, -1, 31, MIN, MAX}) due("hour(" + n + ")", x.hour(n), OUTSIDE);
        due("HOURS", x.told(5), 31);
    }

    @Says("n HOURS (1 .. 30): MET. OUTSIDE, NOT: no HOUSE;")
    void noHoursWithoutAHouse() {
        MusicWalls x = new MusicWalls();
        due("hour(1)", x.hour(1), NOT);
        due("hour(30)", x.hour(30), NOT);
        due("told(5)", x.told(5), 0);
        due("told(13)", x.told(13), 0);
        due("house()", housed(x, "d0;"), 0);
        due("a HOUSE without ROOMS", x.hour(1), 0);
    }

    @Says("FULL: HOURS are above 90000 (as it is called).")
    void hoursAbove90000() {
        // So many HOURS do not pass in 512 calls: what is answered behind them is free, the class keeps to it all the same.
        MusicWalls x = of("d0;r1;");
        times(3000, () -> x.hour(30));
        due("HOURS", x.told(5), 90000);
        due("not above as it is called", x.hour(30), 0);
        due("HOURS", x.told(5), 90030);
        due("hour(1)", x.hour(1), FULL);
        due("drift(1)", x.drift(1), FULL);
        due("hour(31)", x.hour(31), OUTSIDE);
        due("undo(29)", x.undo(29), 90001);
        due("hour(1)", x.hour(1), FULL);
        due("undo(1)", x.undo(1), 90000);
        due("drift(1)", x.drift(1), 0);
        due("hour(1)", x.hour(1), FULL);
    }

    // ---- promises 12, 13

    @Says("LIFTED: what it READS then. UNKNOWN, NOT: it is.")
    void liftOnce() {
        MusicWalls x = of("d0;r1,2;r" + ONES + ";u0 3,4;");
        due("lift(0, 0)", x.lift(0, 0), 3);
        due("again", x.lift(0, 0), NOT);
        due("the last BAR, nothing told", x.lift(1, 11), 0);
        due("again", x.lift(1, 11), NOT);
        int[][] unknown = {{-1, 0}, {2, 0}, {MIN, 0}, {MAX, 0}, {0, -1}, {0, 2}, {0, 11}, {1, 12}, {0, MIN}, {0, MAX}, {178956971, 0}};
        for (int[] u : unknown) due("lift(" + u[0] + ", " + u[1] + ")", x.lift(u[0], u[1]), UNKNOWN);
        due("deeds", x.told(13), 2);
    }

    @Says("PASTED: what it READS then. UNKNOWN, NOT: it is not LIFTED.")
    void pasteOnce() {
        MusicWalls x = of("d0;r1,2;r" + ONES + ";u0 3,4;");
        due("not LIFTED", x.paste(0, 0), NOT);
        x.lift(0, 0);
        x.lift(1, 11);
        due("paste(0, 0)", x.paste(0, 0), 1);
        due("again", x.paste(0, 0), NOT);
        due("the last BAR", x.paste(1, 11), 1);
        int[][] unknown = {{-1, 0}, {2, 0}, {MIN, 0}, {MAX, 0}, {0, -1}, {0, 2}, {0, 11}, {1, 12}, {0, MIN}, {0, MAX}, {178956971, 0}};
        for (int[] u : unknown) due("paste(" + u[0] + ", " + u[1] + ")", x.paste(u[0], u[1]), UNKNOWN);
        due("deeds", x.told(13), 4);
    }

    @Says("LIFTED, PASTED by hand: a BAR is so, or not so any more.")
    void liftedAndPastedAgainAndAgain() {
        MusicWalls x = of("d0;r1,2;u0 3,4;");
        for (int i = 0; i < 3; i++) {
            due("lift(0, 1)", x.lift(0, 1), 4);
            due("LIFTED", x.room(0, 1), 2);
            due("paste(0, 1)", x.paste(0, 1), 2);
            due("LIFTED", x.room(0, 1), 0);
        }
        MusicWalls damp = of("d1;r1,2;u0 3,4;");
        damp.hour(2);
        due("what DAMP LIFTED is", damp.lift(0, 1), NOT);
        due("what DAMP LIFTED is PASTED", damp.paste(0, 1), 2);
        due("and LIFTED", damp.lift(0, 1), 4);
    }

    // ---- promise 14

    @Says("MOVED: a PERSON comes to another ROOM, to the first BAR there that READS as the BAR where it is.")
    void toTheFirstBarThatReadsSo() {
        MusicWalls x = of("d0;r1,0,3;r3,1,1;r1;r0,0;p0 0 7;p0 1 1;p0 2 1;");
        due("to the first of two", x.moveTo(0, 1), 1);
        like("all of it", answers(3, what -> x.person(0, what)), "1 1 7 1");
        due("to BAR 0", x.moveTo(0, 2), 0);
        due("from a rest to a rest", x.moveTo(1, 3), 0);
        due("to the last BAR", of("d0;r1;r" + ONES.replace('1', '2').substring(2) + ",1;p0 0 0;").moveTo(0, 1), 11);
        due("the ROOM back", x.moveTo(0, 0), 0);
    }

    @Says("MOVED: the BAR. UNKNOWN, NOT: it is in that ROOM, no BAR READS so.")
    void theNextRoomsBarsAreNotThere() {
        MusicWalls x = of("d0;r5,0;r" + ONES + ";r5;r0;r2;p0 0 1;p0 1 1;");
        due("behind twelve comes the next ROOM's 5", x.moveTo(0, 1), NOT);
        due("behind one comes nothing", x.moveTo(1, 4), NOT);
    }

    @Says("MOVED: the BAR. UNKNOWN, NOT: it is in that ROOM, no BAR READS so.")
    void notMoved() {
        MusicWalls x = of("d0;r1,2;r2,3;p0 0 1;p1 1 1;");
        due("in that ROOM", x.moveTo(0, 0), NOT);
        due("no BAR READS so", x.moveTo(0, 1), NOT);
        due("no BAR READS so", x.moveTo(1, 0), NOT);
        for (int p : new int[] {-1, 2, 5, MIN, MAX}) due("moveTo(" + p + ", 1)", x.moveTo(p, 1), UNKNOWN);
        for (int r : new int[] {-1, 2, 6, MIN, MAX}) due("moveTo(0, " + r + ")", x.moveTo(0, r), UNKNOWN);
        due("deeds", x.told(13), 0);
        x.lift(1, 0);
        x.lift(0, 0);
        due("0 as 0", x.moveTo(0, 1), 0);
    }

    // ---- promise 15

    @Says("PACED: what P was. UNKNOWN, OUTSIDE.")
    void paceFrom0To9() {
        MusicWalls x = of("d0;r1;p0 0 4;p0 0 5;");
        due("pace(0, 9)", x.pace(0, 9), 4);
        due("pace(0, 0)", x.pace(0, 0), 9);
        due("the same again", x.pace(0, 0), 0);
        due("the other", x.pace(1, 1), 5);
        for (int n : new int[] {-1, 10, MIN, MAX}) due("pace(0, " + n + ")", x.pace(0, n), OUTSIDE);
        for (int p : new int[] {-1, 2, 5, MIN, MAX}) due("pace(" + p + ", 0)", x.pace(p, 0), UNKNOWN);
        due("deeds", x.told(13), 4);
    }

    @Says("PACED: P of a PERSON is another one (0 .. 9).")
    void pacedAsItWasIsADeedToo() {
        MusicWalls x = of("d0;r1,1;p0 0 3;");
        due("pace(0, 3)", x.pace(0, 3), 3);
        due("deeds", x.told(13), 1);
        due("pace(0, 0)", x.pace(0, 0), 3);
        due("pace(0, 9)", x.pace(0, 9), 0);
        x.hour(1);
        due("9 of 2", x.person(0, 1), 1);
        due("undo(2)", x.undo(2), 0);
        due("P", x.person(0, 2), 0);
        due("undo(1)", x.undo(1), 0);
        due("P", x.person(0, 2), 3);
    }

    // ---- promise 17

    @Says("The n latest (1 .. 30) are undone: HOURS. OUTSIDE, NOT: not so many.")
    void undoFrom1To30() {
        MusicWalls x = of("d0;r1;");
        for (int n : new int[] {0, -1, 31, MIN, MAX}) due("undo(" + n + ")", x.undo(n), OUTSIDE);
        due("nothing to undo", x.undo(1), NOT);
        x.hour(2);
        due("not so many", x.undo(3), NOT);
        due("not so many", x.undo(30), NOT);
        due("all", x.undo(2), 0);
        due("no more", x.undo(1), NOT);
        x.hour(30);
        due("undo(30)", x.undo(30), 0);
        due("no more", x.undo(1), NOT);
    }

    @Says("(30 at most are kept)")
    void thirtyAtMostAreKept() {
        MusicWalls x = of("d0;r1;");
        x.hour(29);
        due("29", x.told(13), 29);
        x.hour(1);
        due("30", x.told(13), 30);
        x.lift(0, 0);
        due("still 30", x.told(13), 30);
        due("undo(30)", x.undo(30), 1);
        due("the first HOUR stays", x.undo(1), NOT);
        x.hour(30);
        x.hour(17);
        due("still 30", x.told(13), 30);
        due("undo(12)", x.undo(12), 36);
        due("18 are left", x.told(13), 18);
        due("undo(19)", x.undo(19), NOT);
        x.hour(5);
        due("23", x.told(13), 23);
        due("undo(23)", x.undo(23), 18);
        due("no more", x.undo(1), NOT);
    }

    @Says("since the text or IMAGE (30 at most are kept)")
    void sinceTheTextOrImage() {
        MusicWalls x = of("d0;r1;");
        x.hour(3);
        x.keep(0);
        due("behind keep()", x.told(13), 0);
        x.hour(2);
        due("undo(3)", x.undo(3), NOT);
        due("undo(2)", x.undo(2), 3);
        x.hour(1);
        x.goBack(0);
        due("behind goBack()", x.told(13), 0);
        due("undo(1)", x.undo(1), NOT);
        x.hour(1);
        x.goBack(1);
        due("behind a refused goBack()", x.told(13), 1);
        x.keep(2);
        due("behind a refused keep()", x.told(13), 1);
        housed(x, "d0;x");
        due("behind a FAULT", x.told(13), 1);
        housed(x, "d0;r1;");
        due("behind a text", x.told(13), 0);
    }

    @Says("the latest deeds (each HOUR, lift(), paste(), moveTo(), pace(), each HOUR BY DRAWS)")
    void eachDeedIsUndoneByItself() {
        MusicWalls x = of("d2;r1,2,0;r2,1;u0 2,0,1;p0 0 1;p1 0 1;w0 1 1 1;");
        Runnable[] deeds = {() -> x.hour(1), () -> x.lift(0, 0), () -> x.paste(0, 0), () -> x.moveTo(0, 1), () -> x.pace(1, 9),
            () -> x.drift(1), () -> x.hour(2), () -> x.drift(3)};
        int[] many = {1, 1, 1, 1, 1, 1, 2, 3};
        for (int i = 0; i < deeds.length; i++) {
            String before = section2(x);
            int kept = x.told(13);
            deeds[i].run();
            due("deed " + i, x.told(13), kept + many[i]);
            x.undo(many[i]);
            like("deed " + i + " undone", section2(x), before);
            due("deed " + i + " undone", x.told(13), kept);
            deeds[i].run();
        }
        due("all", x.told(13), 11);
        due("undo(11)", x.undo(11), 0);
        like("all undone", section2(x), "HOURS 0 MET 0 LOG 0: LIFTED 0: 0 0 PERSON 0 0 1 PERSON 1 0 1");
    }

    @Says("all of section 2 is as ahead of them; THE SEED stays.")
    void theSeedAndWhatWasSeenStay() {
        MusicWalls x = of("d0;r1;");
        x.drift(3);
        int seed = seedOf(x);
        x.see(0, 1);
        x.write(0, 0, 1);
        x.undo(3);
        due("THE SEED", seedOf(x), seed);
        due("SEEN", x.told(11), 1);
        due("THE BOOK", x.told(12), 1);
    }

    @Says("all of section 2 is as ahead of them; THE SEED stays.")
    void aLogThatWasOverwrittenIsAsItWas() {
        // 20 more MET take each place of THE LOG once, with another WALL.
        MusicWalls x = of("d0;r1,1,1;r1,1,1;p0 0 1;p1 0 1;p1 0 1;w0 0 1 0;w0 1 1 1;w0 2 1 2;");
        x.hour(11);
        String before = section2(x);
        x.hour(10);
        x.undo(10);
        like("as ahead of 20 MET", section2(x), before);
        x.keep(1);
        x.hour(10);
        due("another WALL is the latest", x.logged(0, 0), 0);
        x.goBack(1);
        like("as the IMAGE", section2(x), before);
    }
}
