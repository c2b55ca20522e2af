/** Edges of promises 1 to 4 and of what THE TEXT may be, so far as it has no FAULT. */
final class TextEdges extends Edge {
    private static final String TWELVE = "1,2,3,4,5,6,7,8,9,0,1,2";

    // ---- promise 1

    @Says("`MusicWalls()`: No HOUSE.")
    void aNewObjectHasNoHouse() {
        MusicWalls x = new MusicWalls();
        like("told", answers(13, x::told), "-1 0 0 0 0 0 0 0 0 0 -1 0 0 0");
        due("room(0, 0)", x.room(0, 0), UNKNOWN);
        due("bar(0, 0, 0)", x.bar(0, 0, 0), UNKNOWN);
        due("person(0, 0)", x.person(0, 0), UNKNOWN);
        due("wall(0, 0)", x.wall(0, 0), UNKNOWN);
        due("logged(0, 0)", x.logged(0, 0), NONE);
        due("fault()", x.fault(), NONE);
        due("hour(1)", x.hour(1), NOT);
        due("drift(1)", x.drift(1), NOT);
        due("goBack(0)", x.goBack(0), NOT);
        due("goBack(1)", x.goBack(1), NOT);
        due("seed(0)", x.seed(0), 0);
    }

    @Says("`MusicWalls()`: No HOUSE.")
    void objectsAreEachByThemselves() {
        MusicWalls x = of("d1;r1,2;p0 0 1;");
        x.hour(3);
        x.seed(5);
        x.see(0, 1);
        MusicWalls y = new MusicWalls();
        like("told of another", answers(13, y::told), "-1 0 0 0 0 0 0 0 0 0 -1 0 0 0");
        due("seed(0) of another", y.seed(0), 0);
        housed(y, "d0;r3;");
        due("told(5)", x.told(5), 3);
        due("bar(0, 0, 0)", x.bar(0, 0, 0), 1);
    }

    @Says("An object is used for at most 512 calls after it has been made")
    void the512thCallIsAnswered() {
        MusicWalls x = of("d99;r1,0,2;p0 0 1;");
        for (int i = 19; i < 511; i++) x.hour(30);
        due("the 512th call", x.told(5), 492 * 30);
        MusicWalls y = new MusicWalls();
        for (int i = 0; i < 256; i++) due("house() " + i, i % 2 == 0 ? y.feed('x') : y.house(), i % 2 == 0 ? 1 : -11);
        for (int i = 0; i < 255; i++) y.undo(1);
        due("the 512th call", y.fault(), 0);
    }

    // ---- promise 2

    @Says("A letter (0 .. 255) comes behind THE TEXT: how many it has.")
    void lettersFrom0To255() {
        MusicWalls x = new MusicWalls();
        due("feed(0)", x.feed(0), 1);
        due("feed(255)", x.feed(255), 2);
        due("told(4)", x.told(4), 2);
        for (int c = 1; c < 239; c++) due("feed(" + c + ")", x.feed(c), c + 2);
    }

    @Says("how many it has. OUTSIDE, FULL (240).")
    void noLetterBelow0OrAbove255() {
        MusicWalls x = new MusicWalls();
        for (int c : new int[] {-1, 256, MIN, MAX, 100 + 256, 100 - 256}) due("feed(" + c + ")", x.feed(c), OUTSIDE);
        due("told(4)", x.told(4), 0);
        due("feed(100)", x.feed('d'), 1);
    }

    @Says("how many it has. OUTSIDE, FULL (240).")
    void the241stLetterIsFull() {
        MusicWalls x = new MusicWalls();
        for (int i = 1; i <= 240; i++) due("letter " + i, x.feed(' '), i);
        due("the 241st", x.feed(' '), FULL);
        due("the 241st again", x.feed('d'), FULL);
        due("told(4)", x.told(4), 240);
    }

    @Says("(240 letters at most)")
    void all240LettersAreRead() {
        StringBuilder blanks = new StringBuilder();
        while (blanks.length() < 234) blanks.append(' ');
        fine(blanks + "d7;r1;", 1);
        fine("d7;" + blanks + "r1;", 1);
        faulty("d7;r1" + blanks + "x", 1, 239);
        faulty("d7; r1" + blanks, 1, 240);
    }

    // ---- promise 3

    @Says("THE TEXT (it is empty then, with a FAULT, too)")
    void theTextIsEmptyThen() {
        MusicWalls x = of("d0;r1;");
        due("told(4)", x.told(4), 0);
        due("feed(100)", x.feed('d'), 1);
        due("house()", x.house(), -11);
        due("told(4)", x.told(4), 0);
        due("feed(100)", x.feed('d'), 1);
        for (int i = 2; i <= 240; i++) x.feed('7');
        due("the 241st", x.feed(';'), FULL);
        due("house()", x.house(), -12);
        due("told(4)", x.told(4), 0);
        due("feed(100)", x.feed('d'), 1);
        fed(x, "0;r1;r2;");
        due("house()", x.house(), 2);
    }

    @Says("(HOUR 0, no BAR LIFTED, nobody MET, THE LOG is empty;")
    void allOfSection2BeginsAnew() {
        String text = "d1;r1,2;r3,4;p0 0 1;p1 0 1;w0 1 1 1;";
        MusicWalls x = of(text);
        x.hour(3);
        x.pace(0, 7);
        due("HOURS", x.told(5), 3);
        due("MET", x.told(6), 2);
        due("THE LOG", x.told(7), 2);
        due("LIFTED", x.told(9), 3);
        housed(x, text);
        like("the same text", all(x), all(of(text)));
        due("logged(0, 0)", x.logged(0, 0), NONE);
        due("logged(19, 0)", x.logged(19, 0), NONE);
    }

    @Says("nothing SEEN, no BOOK;")
    void sightAndBookAreGone() {
        MusicWalls x = of("d0;r1,2;");
        x.see(0, 9);
        x.write(0, 0, 9);
        housed(x, "d0;r1,2;");
        due("told(11)", x.told(11), 0);
        due("told(12)", x.told(12), 0);
        due("places(0)", x.places(0), 2);
        due("judge()", x.judge(), NONE);
        due("tear()", x.tear(), 0);
    }

    @Says("IMAGES, what could be undone are gone;")
    void imagesAndThePastAreGone() {
        MusicWalls x = of("d0;r1,2;");
        x.keep(0);
        x.keep(1);
        x.hour(2);
        housed(x, "d0;r1,2;");
        due("told(13)", x.told(13), 0);
        due("undo(1)", x.undo(1), NOT);
        due("goBack(0)", x.goBack(0), NOT);
        due("goBack(1)", x.goBack(1), NOT);
    }

    @Says("THE SEED stays): how many ROOMS")
    void theSeedStays() {
        MusicWalls x = new MusicWalls();
        x.seed(MAX);
        housed(x, "d0;r1;");
        due("seed(3)", x.seed(3), MAX);
        housed(x, "d0;r");
        due("seed(4)", x.seed(4), 3);
        x.house();
        due("seed(5)", x.seed(5), 4);
    }

    @Says("THE SEED stays): how many ROOMS")
    void howManyRooms() {
        fine("d0;", 0);
        fine("d0;r1;", 1);
        fine("d0;r1;r2;r3;r4;r5;r6;", 6);
    }

    @Says("-10 less the number of its FAULT (all else is as it was).")
    void aFaultLeavesAllElse() {
        String[] faulty = {"r1;", "d0;r10;", "d0;d0;", "d0;r1;u0 1;u0 1;", "d0;r5,5,5;r5,5,5;p0 1 2;p0 1 2;x"};
        int[] answers = {-11, -12, -13, -14, -11};
        for (int i = 0; i < faulty.length; i++) {
            MusicWalls x = lived();
            String before = all(x);
            due("house() of " + faulty[i], housed(x, faulty[i]), answers[i]);
            like("all but the fault behind " + faulty[i], all(x).replaceAll(" fault .*", ""), before.replaceAll(" fault .*", ""));
            due("undo(1)", x.undo(1), 2);
            due("goBack(1)", x.goBack(1), 1);
            due("its SEED", x.seed(0), 77);
        }
    }

    private MusicWalls lived() {
        MusicWalls x = of("d2;r1,2;r3,4;u0 5,6;p0 0 1;p1 0 1;w0 1 1 1;");
        x.seed(77);
        x.hour(1);
        x.keep(1);
        x.seed(78);
        x.see(0, 2);
        x.write(0, 1, 0);
        x.hour(1);
        x.lift(1, 1);
        return x;
    }

    @Says("An empty text (or of blanks alone): no HOUSE.")
    void anEmptyTextIsNoHouse() {
        for (String text : new String[] {"", " ", "      "}) {
            MusicWalls x = lived();
            due("house() of '" + text + "'", housed(x, text), 0);
            due("fault()", x.fault(), NONE);
            like("told", answers(13, x::told), "-1 0 0 0 0 0 0 0 0 0 -1 0 0 0");
            due("room(0, 0)", x.room(0, 0), UNKNOWN);
            due("person(0, 0)", x.person(0, 0), UNKNOWN);
            due("wall(0, 0)", x.wall(0, 0), UNKNOWN);
            due("hour(1)", x.hour(1), NOT);
            due("goBack(1)", x.goBack(1), NOT);
        }
    }

    @Says("An empty text (or of blanks alone): no HOUSE.")
    void aTextOf240Blanks() {
        MusicWalls x = new MusicWalls();
        for (int i = 0; i < 240; i++) x.feed(' ');
        due("house()", x.house(), 0);
        due("fault()", x.fault(), NONE);
        due("told(0)", x.told(0), NONE);
    }

    // ---- promise 4

    @Says("of the letter that has the FAULT of the latest house(); NONE.")
    void thePlaceOfTheLatestFault() {
        MusicWalls x = new MusicWalls();
        due("fault() at first", x.fault(), NONE);
        housed(x, "x");
        due("fault() at 0", x.fault(), 0);
        fed(x, "d0;r");
        due("fault() ahead of house()", x.fault(), 0);
        x.house();
        due("fault() at the end", x.fault(), 4);
        housed(x, "d0;");
        due("fault() of none", x.fault(), NONE);
        for (int i = 0; i < 240; i++) x.feed(' ');
        x.house();
        due("fault() of blanks", x.fault(), NONE);
        for (int i = 0; i < 239; i++) x.feed(' ');
        x.feed('d');
        x.house();
        due("fault() at the end of 240", x.fault(), 240);
    }

    // ---- what the clauses may be

    @Says("'d' D ';' (DAMP each D HOURS, 1 .. 99; 0: none; first, once)")
    void dampFrom0To99() {
        due("D 0", of("d0;").told(0), 0);
        due("D 1", of("d1;").told(0), 1);
        due("D 99", of("d99;").told(0), 99);
        faulty("d100;", 2, 1);
        faulty("d999;", 2, 1);
    }

    @Says("'r' X {',' X} ';' (6 ROOMS at most: its PAPER: BARS 0 on, 1 to 12 numbers, 0 .. 9; 0 is a REST)")
    void papersOf1To12Numbers() {
        MusicWalls x = of("d0;r0;r" + TWELVE + ";r9,0;");
        due("one BAR", x.room(0, 0), 1);
        due("twelve BARS", x.room(1, 0), 12);
        like("the BARS", answers(11, b -> x.bar(1, b, 0)), "1 2 3 4 5 6 7 8 9 0 1 2");
        due("the first of 9", x.bar(2, 0, 0), 9);
        faulty("d0;r;", 1, 4);
        faulty("d0;r" + TWELVE + ",3;", 1, 27);
        faulty("d0;r10;", 2, 4);
    }

    @Says("told ahead: as many numbers, 0 .. 9; each R once)")
    void underAsManyNumbers() {
        MusicWalls x = of("d0;r" + TWELVE + ";r5;u0 2,1,0,9,8,7,6,5,4,3,2,1;u1 9;");
        like("UNDER", answers(11, b -> x.bar(0, b, 1)), "2 1 0 9 8 7 6 5 4 3 2 1");
        due("UNDER one", x.bar(1, 0, 1), 9);
        fine("d0;r1;u0 0;r2;u1 9;", 2);
        fine("d0;r1;r1;r1;r1;r1;r1;u5 1;u4 1;u3 1;u2 1;u1 1;u0 1;", 6);
    }

    @Says("'p' R B P ';' (5 PERSONS at most: in ROOM R, at its BAR B, goes P BARS an HOUR, 0 .. 9)")
    void fivePersons() {
        MusicWalls x = of("d0;r1;r" + TWELVE + ";p0 0 0;p1 11 9;p1 0 1;p0 0 9;p1 11 0;");
        due("PERSONS", x.told(2), 5);
        like("the last BAR, 9", answers(3, what -> x.person(1, what)), "1 11 9 2");
        like("the last PERSON", answers(3, what -> x.person(4, what)), "1 11 0 2");
        fine("d0;r1;p0 0 0;r2;p1 0 1;", 2);
    }

    @Says("'w' R A S B ';' (6 WALLS at most: BAR A of ROOM R, BAR B of ROOM S, unlike R)")
    void sixWalls() {
        MusicWalls x = of("d0;r1;r" + TWELVE + ";w0 0 1 11;w1 11 0 0;w0 0 1 0;w1 0 0 0;w0 0 1 5;w1 5 0 0;");
        due("WALLS", x.told(3), 6);
        like("the first", answers(3, what -> x.wall(0, what)), "0 0 1 11");
        like("the last", answers(3, what -> x.wall(5, what)), "1 5 0 0");
    }

    @Says("NUMBERS have one to three figures;")
    void numbersOfOneToThreeFigures() {
        due("one", of("d7;").told(0), 7);
        due("two", of("d07;").told(0), 7);
        due("three", of("d007;").told(0), 7);
        due("three", of("d099;").told(0), 99);
        due("three noughts", of("d000;").told(0), 0);
        fine("d000;r001,002,000;u000 009,000,000;r9;p000 002 009;w000 001 001 000;", 2);
        faulty("d0007;", 2, 1);
    }

    @Says("a word is one letter;")
    void aWordIsOneLetter() {
        faulty("dd0;", 1, 1);
        faulty("d0;rr1;", 1, 4);
        faulty("d0;r1;pp0 0 1;", 1, 7);
        faulty("d0;room1;", 1, 4);
        faulty("D0;", 1, 0);
        faulty("d0;R1;", 1, 3);
    }

    @Says("blanks (32) may stand anywhere but within NUMBERS;")
    void blanksAnywhere() {
        String text = "d9;r1,2;r3,4;u0 5,6;p0 1 2;w0 0 1 1;";
        for (int i = 0; i <= text.length(); i++) fine(text.substring(0, i) + " " + text.substring(i), 2);
        fine("  d  9  ;  r  1  ,  2  ;  r  3  ,  4  ;  u  0  5  ,  6  ;  p  0  1  2  ;  w  0  0  1  1  ;  ", 2);
        faulty("d1 0;", 1, 3);
        faulty("d0;r0 1;", 1, 6);
        faulty("d0;r1,0 2;", 1, 8);
    }

    @Says("blanks (32) may stand anywhere but within NUMBERS;")
    void noOtherSignIsABlank() {
        for (int c : new int[] {0, 9, 10, 13, 31, 33, 95, 127, 160, 255}) {
            faulty((char) c + "d0;", 1, 0);
            faulty("d" + (char) c + "0;", 1, 1);
            faulty("d0;r1" + (char) c + ";", 1, 5);
        }
    }

    @Says("two NUMBERS side by side need one.")
    void numbersSideBySide() {
        fine("d0;r1,2;p0 1 2;", 1);
        faulty("d0;r1,2;p01 2;", 2, 9);
        faulty("d0;r1,2;p0 12;", 2, 11);
        faulty("d0;r1,2;p000;", 1, 12);
        faulty("d0;r1,2;u01,2;", 2, 9);
        fine("d0;r1,2;r3;w0 1 1 0;", 2);
        faulty("d0;r1,2;r3;w0 1 10;", 2, 16);
    }
}
