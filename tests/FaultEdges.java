/** Edges of the FAULTS of THE TEXT. */
final class FaultEdges extends Edge {
    private static final String TWELVE = "1,2,3,4,5,6,7,8,9,0,1,2";
    /** One of each clause; each NUMBER has one figure, so that it is whole wherever it is cut. */
    private static final String WHOLE = "d9;r1,2;r3,4;u0 5,6;p0 1 2;w0 0 1 1;";

    private static String repeated(String text, int n) {
        StringBuilder t = new StringBuilder();
        for (int i = 0; i < n; i++) t.append(text);
        return t.toString();
    }

    // ---- where

    @Says("FAULTS, at the first letter that has one")
    void theFirstLetterThatHasOne() {
        faulty("d0;d0;x", 3, 3);
        faulty("d0;r1;u0 1;u0 1;d0;r99;x", 4, 12);
        faulty("d0;r99;x;d0;", 2, 4);
        faulty("d0;r1;p0 9 99", 2, 9);
        faulty("d100", 2, 1);
        faulty("d0;r1,2;u0 1,2,99;", 1, 14);
        faulty("d0;r1,2;u0 1,99,3;", 2, 13);
        faulty("d0;r1;r2;w0 0 0 9;", 4, 14);
        faulty("d0;r1;r2;w0 9 0 9;", 2, 12);
    }

    @Says("(the end at the text's length)")
    void theEndAtTheTextsLength() {
        for (int i = 1; i < WHOLE.length(); i++) {
            String cut = WHOLE.substring(0, i);
            if (cut.endsWith(";")) fine(cut, cut.contains("r3") ? 2 : cut.contains("r") ? 1 : 0);
            else faulty(cut, 1, i);
        }
        faulty("d", 1, 1);
        faulty("d   ", 1, 4);
        faulty("d9 ", 1, 3);
        faulty(" d9;r1,2 ", 1, 9);
    }

    @Says("(the end at the text's length)")
    void lettersOfAnEarlierTextAreBehindTheEnd() {
        MusicWalls x = new MusicWalls();
        housed(x, WHOLE);
        for (int i = 1; i < WHOLE.length(); i++) {
            if (WHOLE.charAt(i - 1) == ';') continue;
            due("house() of the first " + i, housed(x, WHOLE.substring(0, i)), -11);
            due("fault()", x.fault(), i);
            if (i == 20) housed(x, WHOLE);
        }
        for (int i = 0; i < 240; i++) x.feed("d0;".charAt(i % 3));
        due("house() of 240", x.house(), -13);
        due("house() of 'd0'", housed(x, "d0"), -11);
        due("fault()", x.fault(), 2);
    }

    @Says("of these the least: 1 it cannot stand there")
    void ofTheseTheLeast() {
        faulty("d0 0000;", 1, 3);
        faulty("d0d0;", 1, 2);
        faulty("0000;", 1, 0);
        faulty("d0;0000;", 1, 3);
        faulty("d0;r1 0000;", 1, 6);
        faulty("d0;r1;u0 1;u0000 1;", 2, 12);
        faulty("d0;r1;r2;w0 0 0000 0;", 2, 14);
        faulty("d0;r1;r2;r3;r4;r5;r6r7;", 1, 20);
        faulty("d0;r1;" + repeated("p0 0 0;", 4) + "p0 0 0p0 0 0;", 1, 40);
    }

    // ---- 1

    @Says("(a letter that is no word,")
    void aLetterThatIsNoWord() {
        for (int c = 0; c < 256; c++) {
            if (c != ' ' && "drupw".indexOf(c) < 0) faulty("d0;" + (char) c, 1, 3);
        }
        faulty("d0;  ;", 1, 5);
        faulty("d0;r1;;", 1, 6);
    }

    @Says("another word first than 'd';")
    void anotherWordFirstThanD() {
        for (String word : new String[] {"r1;", "u0 1;", "p0 0 1;", "w0 0 1 0;"}) {
            faulty(word, 1, 0);
            faulty("  " + word, 1, 2);
            faulty(word + "d0;", 1, 0);
        }
    }

    @Says("a 13th X of 'r', an X too many of 'u': at its ',';")
    void a13thOfR() {
        fine("d0;r" + TWELVE + ";", 1);
        faulty("d0;r" + TWELVE + ",3;", 1, 27);
        faulty("d0;r" + TWELVE + "  ,3;", 1, 29);
        faulty("d0;r" + TWELVE + ",", 1, 27);
        faulty("d0;r" + TWELVE + ",99999", 1, 27);
        faulty("d0;r1;r" + TWELVE + ",3;", 1, 30);
    }

    @Says("a 13th X of 'r', an X too many of 'u': at its ',';")
    void oneTooManyOfU() {
        faulty("d0;r1;u0 1,2;", 1, 10);
        faulty("d0;r1,2;u0 1,2,3;", 1, 14);
        faulty("d0;r1,2;u0 1,2 ,3;", 1, 15);
        faulty("d0;r1,2;u0 1,2,", 1, 14);
        faulty("d0;r" + TWELVE + ";u0 " + TWELVE + ",0;", 1, 54);
    }

    @Says("too few of 'u': at what stands there)")
    void tooFewOfU() {
        faulty("d0;r1,2;u0 1;", 1, 12);
        faulty("d0;r1,2;u0 1 ;", 1, 13);
        faulty("d0;r1,2;u0 1", 1, 12);
        faulty("d0;r1,2;u0 1  ", 1, 14);
        faulty("d0;r1,2;u0 1p0 0 0;", 1, 12);
        faulty("d0;r1,2;u0 1 2;", 1, 13);
        faulty("d0;r1,2;u0;", 1, 10);
        faulty("d0;r1,2;u0 ,1;", 1, 11);
        faulty("d0;r1,2;u0 1,;", 1, 13);
        faulty("d0;r" + TWELVE + ";u0 1,2,3,4,5,6,7,8,9,0,1;", 1, 52);
    }

    @Says("1 it cannot stand there (a letter")
    void whatCannotStandInAClause() {
        faulty("d;", 1, 1);
        faulty("d,0;", 1, 1);
        faulty("d-1;", 1, 1);
        faulty("d0,", 1, 2);
        faulty("d0;r,1;", 1, 4);
        faulty("d0;r1,,2;", 1, 6);
        faulty("d0;r1,;", 1, 6);
        faulty("d0;r1.5;", 1, 5);
        faulty("d0;r1;p;", 1, 7);
        faulty("d0;r1;p0;", 1, 8);
        faulty("d0;r1;p0 0;", 1, 10);
        faulty("d0;r1;p0,0 1;", 1, 8);
        faulty("d0;r1;p0 0 1,", 1, 12);
        faulty("d0;r1;p0 0 1 1;", 1, 13);
        faulty("d0;r1;r2;w;", 1, 10);
        faulty("d0;r1;r2;w0 0 1;", 1, 15);
        faulty("d0;r1;r2;w0 0 1 0 0;", 1, 18);
    }

    @Says("1 it cannot stand there (a letter")
    void signsNextToTheFiguresAreNone() {
        for (char c : new char[] {'/', ':', (char) 178, (char) 189}) {
            faulty("d" + c + ";", 1, 1);
            faulty("d1" + c + ";", 1, 2);
            faulty("d0;r" + c + ";", 1, 4);
            faulty("d0;r1;p0 0 " + c + ";", 1, 11);
        }
    }

    // ---- 2

    @Says("2 a NUMBER of four figures or more,")
    void aNumberOfFourFigures() {
        faulty("d0000;", 2, 1);
        faulty("d0001;", 2, 1);
        faulty("d1000;", 2, 1);
        faulty("d  0000;", 2, 3);
        faulty("d" + repeated("0", 100) + ";", 2, 1);
        faulty("d" + repeated("9", 239), 2, 1);
        faulty("d4294967296;", 2, 1);
        faulty("d18446744073709551616;", 2, 1);
        faulty("d0;r0000;", 2, 4);
        faulty("d0;r1,0001;", 2, 6);
        faulty("d0;r1;u0000 1;", 2, 7);
        faulty("d0;r1;u0 0001;", 2, 9);
        faulty("d0;r1;p0000 0 0;", 2, 7);
        faulty("d0;r1;p0 0000 0;", 2, 9);
        faulty("d0;r1;p0 0 0000;", 2, 11);
        faulty("d0;r1;r2;w0000 0 1 0;", 2, 10);
        faulty("d0;r1;r2;w0 0000 1 0;", 2, 12);
        faulty("d0;r1;r2;w0 0 0001 0;", 2, 14);
        faulty("d0;r1;r2;w0 0 1 0000;", 2, 16);
    }

    @Says("or out of its bounds;")
    void aNumberOutOfItsBounds() {
        faulty("d100;", 2, 1);
        faulty("d0;r10;", 2, 4);
        faulty("d0;r9,9,10;", 2, 8);
        faulty("d0;r999;", 2, 4);
        faulty("d0;r1;u0 10;", 2, 9);
        faulty("d0;r1,1;u0 9,10;", 2, 13);
        faulty("d0;r1;p0 0 10;", 2, 11);
        faulty("d0;r1;p0 0 010;", 2, 11);
    }

    @Says("a ROOM, a BAR that there is not (at its first).")
    void aRoomThatThereIsNot() {
        faulty("d0;u0 1;", 2, 4);
        faulty("d0;p0 0 0;", 2, 4);
        faulty("d0;w0 0 1 0;", 2, 4);
        faulty("d0;r1;u1 1;", 2, 7);
        faulty("d0;r1;p1 0 0;", 2, 7);
        faulty("d0;r1;w1 0 0 0;", 2, 7);
        faulty("d0;r1;w0 0 1 0;", 2, 11);
        faulty("d0;r1;r2;r3;r4;r5;r6;u6 1;", 2, 22);
        faulty("d0;r1;r2;r3;r4;r5;r6;p6 0 0;", 2, 22);
        faulty("d0;r1;r2;r3;r4;r5;r6;w6 0 0 0;", 2, 22);
        faulty("d0;r1;r2;r3;r4;r5;r6;w5 0 6 0;", 2, 26);
        faulty("d0;r1;r2;r3;r4;r5;r6;w5 0   006 0;", 2, 28);
    }

    @Says("a ROOM, a BAR that there is not (at its first).")
    void aBarThatThereIsNot() {
        faulty("d0;r1;p0 1 0;", 2, 9);
        faulty("d0;r1,2;r3;p1 1 0;", 2, 14);
        faulty("d0;r1;r2;w0 1 1 0;", 2, 12);
        faulty("d0;r1;r2,2;w0 0 1 2;", 2, 18);
        faulty("d0;r1,1;r2;w0 1 1 1;", 2, 18);
        faulty("d0;r" + TWELVE + ";p0 12 0;", 2, 31);
        faulty("d0;r" + TWELVE + ";r1;w0 12 1 0;", 2, 34);
        fine("d0;r1;r2,2;w0 0 1 1;", 2);
    }

    @Says("told ahead: as many numbers, 0 .. 9; each R once)")
    void whatIsToldBehindIsNotThereYet() {
        faulty("d0;u0 1;r1;", 2, 4);
        faulty("d0;r1;u1 1;r1;", 2, 7);
        faulty("d0;p0 0 0;r1;", 2, 4);
        faulty("d0;r1;w0 0 1 0;r1;", 2, 11);
    }

    // ---- 3

    @Says("3 'd' again,")
    void damp2() {
        faulty("d0;d0;", 3, 3);
        faulty("d0; d0;", 3, 4);
        faulty("d0;d", 3, 3);
        faulty("d5;r1;d5;", 3, 6);
    }

    @Says("a seventh 'r',")
    void aSeventhR() {
        String six = "d0;" + repeated("r1;", 6);
        fine(six, 6);
        faulty(six + "r1;", 3, 21);
        faulty(six + "r", 3, 21);
        faulty(six + "p0 0 0; rx", 3, 29);
    }

    @Says("a sixth 'p',")
    void aSixthP() {
        String five = "d0;r1;" + repeated("p0 0 0;", 5);
        fine(five, 1);
        faulty(five + "p0 0 0;", 3, 41);
        faulty(five + "p9", 3, 41);
        faulty(five + "r1; p", 3, 45);
    }

    @Says("a seventh 'w' (at it).")
    void aSeventhW() {
        String six = "d0;r1;r1;" + repeated("w0 0 1 0;", 6);
        fine(six, 2);
        faulty(six + "w0 0 1 0;", 3, 63);
        faulty(six + "w0 0 0 0;", 3, 63);
        faulty(six + "p0 0 0;w", 3, 70);
    }

    // ---- 4

    @Says("4 an R of 'u' that was told;")
    void anRThatWasTold() {
        faulty("d0;r1;u0 1;u0 1;", 4, 12);
        faulty("d0;r1;u0 1;u  000 1;", 4, 14);
        faulty("d0;r1;u0 1;u0", 4, 12);
        faulty("d0;r1;r2;u1 1;u0 1;u1 1;", 4, 20);
        faulty("d0;r1;r2;r3;r4;r5;r6;u5 1;u5 1;", 4, 27);
        fine("d0;r1;r2;u1 1;u0 1;", 2);
    }

    @Says("an S like R (at it).")
    void anSLikeR() {
        faulty("d0;r1;w0 0 0 0;", 4, 11);
        faulty("d0;r1;r2;w1 0 1 0;", 4, 14);
        faulty("d0;r1;r2;w1 0  001 0;", 4, 15);
        faulty("d0;r1;r2;w1 0 1", 4, 14);
        faulty("d0;r1;r2;w1 0 1 9;", 4, 14);
        faulty("d0;r1;r2;r3;r4;r5;r6;w5 0 5 0;", 4, 26);
    }

    @Says("FAULTS, at the first letter that has one")
    void aFaultInADraftLeavesNothingBehind() {
        MusicWalls x = new MusicWalls();
        housed(x, "d0;r1,2;u0 7,8;x");
        due("house()", housed(x, "d0;r1,2;"), 1);
        due("what is UNDER", x.bar(0, 0, 1), 0);
        due("UNDER was told", x.room(0, 4), 0);
        housed(x, "d0;r1;r1;r1;r1;r1;r1;r1;");
        due("house()", housed(x, "d0;r1;r2;u0 1;u1 2;"), 2);
        housed(x, "d0;r1;u0 1;u0 1;");
        due("house()", housed(x, "d0;r1;u0 1;"), 1);
        due("fault()", x.fault(), NONE);
    }
}
