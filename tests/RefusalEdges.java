import java.util.function.ToIntFunction;

/** What is refused: in which order, and that nothing changes by it. */
final class RefusalEdges extends Edge {
    private static final int FAR = 99999;

    private record Refused(String call, ToIntFunction<MusicWalls> asked, int due) { }

    /** Behind this two HOURS can be undone, IMAGE 1 is kept; IMAGE 0 is not. */
    private MusicWalls lived() {
        MusicWalls x = of("d3;r1,2,4;r2,3;u0 3,0,3;p0 0 1;p1 1 1;w0 1 1 0;");
        x.seed(5);
        x.hour(3);
        x.keep(1);
        x.seed(6);
        x.hour(2);
        x.see(0, 3);
        x.write(0, 0, 3);
        fed(x, "d1;");
        return x;
    }

    private void refused(Refused... calls) {
        for (Refused r : calls) {
            MusicWalls x = lived();
            String before = all(x);
            due(r.call, r.asked.applyAsInt(x), r.due);
            like("all behind " + r.call, all(x), before);
            due("undo(2) behind " + r.call, x.undo(2), 3);
            due("goBack(0) behind " + r.call, x.goBack(0), NOT);
            due("goBack(1) behind " + r.call, x.goBack(1), 1);
            due("its SEED behind " + r.call, seedOf(x), 5);
            due("the text behind " + r.call, x.house(), 0);
        }
    }

    @Says("What is refused changes nothing.")
    void refusedOfTheHouse() {
        refused(new Refused("feed(-1)", x -> x.feed(-1), OUTSIDE), new Refused("feed(256)", x -> x.feed(256), OUTSIDE),
            new Refused("told(14)", x -> x.told(14), OUTSIDE), new Refused("room(2, 0)", x -> x.room(2, 0), UNKNOWN),
            new Refused("room(0, 5)", x -> x.room(0, 5), OUTSIDE), new Refused("bar(1, 2, 0)", x -> x.bar(1, 2, 0), UNKNOWN),
            new Refused("bar(0, 0, 3)", x -> x.bar(0, 0, 3), OUTSIDE), new Refused("person(2, 0)", x -> x.person(2, 0), UNKNOWN),
            new Refused("person(0, 4)", x -> x.person(0, 4), OUTSIDE), new Refused("wall(1, 0)", x -> x.wall(1, 0), UNKNOWN),
            new Refused("wall(0, 4)", x -> x.wall(0, 4), OUTSIDE), new Refused("logged(0, 3)", x -> x.logged(0, 3), OUTSIDE));
    }

    @Says("What is refused changes nothing.")
    void refusedDeeds() {
        refused(new Refused("hour(0)", x -> x.hour(0), OUTSIDE), new Refused("hour(31)", x -> x.hour(31), OUTSIDE),
            new Refused("drift(0)", x -> x.drift(0), OUTSIDE), new Refused("drift(31)", x -> x.drift(31), OUTSIDE),
            new Refused("lift(0, 3)", x -> x.lift(0, 3), UNKNOWN), new Refused("lift(0, 0)", x -> x.lift(0, 0), NOT),
            new Refused("paste(0, 3)", x -> x.paste(0, 3), UNKNOWN), new Refused("paste(0, 1)", x -> x.paste(0, 1), NOT),
            new Refused("moveTo(2, 0)", x -> x.moveTo(2, 0), UNKNOWN), new Refused("moveTo(0, 2)", x -> x.moveTo(0, 2), UNKNOWN),
            new Refused("moveTo(0, 0)", x -> x.moveTo(0, 0), NOT), new Refused("moveTo(0, 1)", x -> x.moveTo(0, 1), NOT),
            new Refused("pace(2, 0)", x -> x.pace(2, 0), UNKNOWN), new Refused("pace(0, 10)", x -> x.pace(0, 10), OUTSIDE),
            new Refused("pace(0, -1)", x -> x.pace(0, -1), OUTSIDE), new Refused("undo(0)", x -> x.undo(0), OUTSIDE),
            new Refused("undo(31)", x -> x.undo(31), OUTSIDE), new Refused("undo(3)", x -> x.undo(3), NOT));
    }

    @Says("What is refused changes nothing.")
    void refusedOfWhatIsTried() {
        refused(new Refused("where(2, 0)", x -> x.where(2, 0), UNKNOWN), new Refused("where(0, 100)", x -> x.where(0, 100), OUTSIDE),
            new Refused("meets(100)", x -> x.meets(100), OUTSIDE), new Refused("together(0, 0)", x -> x.together(0, 0), UNKNOWN),
            new Refused("canon(0, 0, 0)", x -> x.canon(0, 0, 0), UNKNOWN), new Refused("canon(0, 1, 12)", x -> x.canon(0, 1, 12), OUTSIDE),
            new Refused("bestCanon(0, 1, 2)", x -> x.bestCanon(0, 1, 2), OUTSIDE),
            new Refused("match(0, 1, 12, 0)", x -> x.match(0, 1, 12, 0), OUTSIDE),
            new Refused("join(0, 0)", x -> x.join(0, 0), UNKNOWN), new Refused("shortest(2)", x -> x.shortest(2), OUTSIDE),
            new Refused("nearest(2)", x -> x.nearest(2), UNKNOWN), new Refused("modulation(0, 2)", x -> x.modulation(0, 2), UNKNOWN),
            new Refused("sounds(10)", x -> x.sounds(10), OUTSIDE), new Refused("dry(61, 0)", x -> x.dry(61, 0), OUTSIDE));
    }

    @Says("What is refused changes nothing.")
    void refusedOfSightAndImages() {
        refused(new Refused("see(12, 0)", x -> x.see(12, 0), OUTSIDE), new Refused("see(0, 10)", x -> x.see(0, 10), OUTSIDE),
            new Refused("places(3)", x -> x.places(3), OUTSIDE), new Refused("write(0, 3, 0)", x -> x.write(0, 3, 0), UNKNOWN),
            new Refused("write(0, 0, 10)", x -> x.write(0, 0, 10), OUTSIDE), new Refused("seed(-1)", x -> x.seed(-1), OUTSIDE),
            new Refused("keep(2)", x -> x.keep(2), UNKNOWN), new Refused("keep(-1)", x -> x.keep(-1), UNKNOWN),
            new Refused("goBack(2)", x -> x.goBack(2), UNKNOWN), new Refused("goBack(0)", x -> x.goBack(0), NOT));
    }

    @Says("What is refused changes nothing.")
    void refusedAsFull() {
        MusicWalls x = of("d0;r1;");
        for (int i = 0; i < 6; i++) x.see(i, 1);
        for (int i = 0; i < 20; i++) x.write(0, 0, i % 10);
        fed(x, "d0;r2;");
        for (int i = 6; i < 240; i++) x.feed(' ');
        String before = all(x);
        due("see(0, 2)", x.see(0, 2), FULL);
        due("write(0, 0, 9)", x.write(0, 0, 9), FULL);
        due("feed('x')", x.feed('x'), FULL);
        like("all", all(x), before);
        due("house()", x.house(), 1);
    }

    @Says("What is refused changes nothing.")
    void refusedWithoutAHouse() {
        MusicWalls x = new MusicWalls();
        String before = all(x);
        due("hour(1)", x.hour(1), NOT);
        due("drift(1)", x.drift(1), NOT);
        due("undo(1)", x.undo(1), NOT);
        due("goBack(0)", x.goBack(0), NOT);
        due("lift(0, 0)", x.lift(0, 0), UNKNOWN);
        due("paste(0, 0)", x.paste(0, 0), UNKNOWN);
        due("moveTo(0, 0)", x.moveTo(0, 0), UNKNOWN);
        due("pace(0, 0)", x.pace(0, 0), UNKNOWN);
        due("write(0, 0, 0)", x.write(0, 0, 0), UNKNOWN);
        like("all", all(x), before);
    }

    // ---- the order

    @Says("REFUSALS, of several the first in this order: UNKNOWN")
    void unknownAheadOfOutside() {
        MusicWalls x = of("d0;r1;r1;p0 0 0;p1 0 0;w0 0 1 0;");
        due("room", x.room(2, FAR), UNKNOWN);
        due("bar, the ROOM", x.bar(2, 0, FAR), UNKNOWN);
        due("bar, the BAR", x.bar(0, 1, FAR), UNKNOWN);
        due("person", x.person(2, FAR), UNKNOWN);
        due("wall", x.wall(1, FAR), UNKNOWN);
        due("pace", x.pace(2, FAR), UNKNOWN);
        due("where", x.where(2, FAR), UNKNOWN);
        due("canon", x.canon(0, 2, FAR), UNKNOWN);
        due("canon, one twice", x.canon(0, 0, FAR), UNKNOWN);
        due("bestCanon", x.bestCanon(2, 0, FAR), UNKNOWN);
        due("bestCanon, one twice", x.bestCanon(1, 1, FAR), UNKNOWN);
        due("match, k", x.match(0, 2, FAR, 0), UNKNOWN);
        due("match, what", x.match(2, 0, 0, FAR), UNKNOWN);
        due("match, one twice", x.match(1, 1, FAR, FAR), UNKNOWN);
        due("write, the ROOM", x.write(2, 0, FAR), UNKNOWN);
        due("write, the BAR", x.write(0, 1, FAR), UNKNOWN);
    }

    @Says("REFUSALS, of several the first in this order: UNKNOWN")
    void unknownAheadOfNotAndFull() {
        MusicWalls x = of("d0;r1;r2;p0 0 0;");
        due("moveTo: no PERSON, a ROOM", x.moveTo(1, 0), UNKNOWN);
        due("moveTo: no ROOM where a BAR could READ so", x.moveTo(0, 2), UNKNOWN);
        due("paste: no BAR that could be LIFTED", x.paste(0, 1), UNKNOWN);
        due("goBack: no IMAGE that could be kept", x.goBack(2), UNKNOWN);
        times(20, () -> x.write(0, 0, 1));
        due("write: FULL, no BAR", x.write(0, 1, 0), UNKNOWN);
        due("write: FULL, no ROOM, OUTSIDE", x.write(2, 0, FAR), UNKNOWN);
    }

    @Says("OUTSIDE (another number out of its bounds), NOT (not now, as told), FULL.")
    void outsideAheadOfNotAndFull() {
        MusicWalls x = new MusicWalls();
        due("hour: no HOUSE", x.hour(31), OUTSIDE);
        due("hour: no HOUSE", x.hour(0), OUTSIDE);
        due("drift: no HOUSE", x.drift(31), OUTSIDE);
        due("drift: no HOUSE", x.drift(0), OUTSIDE);
        due("undo: nothing to undo", x.undo(31), OUTSIDE);
        due("undo: nothing to undo", x.undo(0), OUTSIDE);
        due("logged: nothing logged", x.logged(0, 3), OUTSIDE);
        for (int i = 0; i < 240; i++) x.feed(' ');
        due("feed: FULL", x.feed(256), OUTSIDE);
        due("feed: FULL", x.feed(-1), OUTSIDE);
        times(6, () -> x.see(0, 0));
        due("see: FULL", x.see(12, 0), OUTSIDE);
        due("see: FULL", x.see(0, -1), OUTSIDE);
        MusicWalls y = of("d0;r1;");
        times(20, () -> y.write(0, 0, 1));
        due("write: FULL", y.write(0, 0, 10), OUTSIDE);
        due("write: FULL", y.write(0, 0, -1), OUTSIDE);
    }

    @Says("UNKNOWN (a ROOM, a BAR of it, PERSON, WALL, IMAGE that there is not; one twice, where two are asked)")
    void nothingIsThereWithoutAHouse() {
        for (MusicWalls x : new MusicWalls[] {new MusicWalls(), of("d0;"), of("")}) {
            due("room", x.room(0, 0), UNKNOWN);
            due("bar", x.bar(0, 0, 0), UNKNOWN);
            due("person", x.person(0, 0), UNKNOWN);
            due("wall", x.wall(0, 0), UNKNOWN);
            due("lift", x.lift(0, 0), UNKNOWN);
            due("paste", x.paste(0, 0), UNKNOWN);
            due("moveTo", x.moveTo(0, 0), UNKNOWN);
            due("pace", x.pace(0, 0), UNKNOWN);
            due("where", x.where(0, 0), UNKNOWN);
            due("together", x.together(0, 1), UNKNOWN);
            due("canon", x.canon(0, 1, 0), UNKNOWN);
            due("bestCanon", x.bestCanon(0, 1, 0), UNKNOWN);
            due("match", x.match(0, 1, 0, 0), UNKNOWN);
            due("join", x.join(0, 1), UNKNOWN);
            due("nearest", x.nearest(0), UNKNOWN);
            due("modulation", x.modulation(0, 0), UNKNOWN);
            due("write", x.write(0, 0, 0), UNKNOWN);
        }
    }

    @Says("UNKNOWN (a ROOM, a BAR of it, PERSON, WALL, IMAGE that there is not; one twice, where two are asked)")
    void whatAnEarlierHouseHadIsNotThere() {
        MusicWalls x = of("d0;r1;r2,2;r3;p0 0 0;p2 0 0;w0 0 1 1;w0 0 1 0;");
        housed(x, "d0;r1;r2;p0 0 0;w0 0 1 0;");
        due("room", x.room(2, 0), UNKNOWN);
        due("bar", x.bar(1, 1, 0), UNKNOWN);
        due("person", x.person(1, 0), UNKNOWN);
        due("wall", x.wall(1, 0), UNKNOWN);
        due("lift", x.lift(1, 1), UNKNOWN);
        due("moveTo", x.moveTo(0, 2), UNKNOWN);
        due("together", x.together(0, 1), UNKNOWN);
        due("sounds", x.sounds(3), 0);
        due("places", x.places(0), 2);
    }

    @Says("They are far below all that is counted: -1000000001 and on.")
    void theNumbersOfRefusals() {
        due("NONE", MusicWalls.NONE, -1);
        due("UNKNOWN", MusicWalls.UNKNOWN, -1000000001);
        due("OUTSIDE", MusicWalls.OUTSIDE, -1000000002);
        due("NOT", MusicWalls.NOT, -1000000003);
        due("FULL", MusicWalls.FULL, -1000000004);
        due("BILLION", new MusicWalls().dry(0, 0), 1000000000);
    }

    @Says("OUTSIDE (another number out of its bounds), NOT (not now, as told), FULL.")
    void numbersThatWrapRound() {
        // A product or a shift of these comes round to what is there.
        int[] odd = {MIN, MIN + 1, MAX, MAX - 1, 1 << 30, 1 << 28, 357913942, 178956971, -357913941, 65536, -65536, 256, 64, 32, -32};
        MusicWalls x = of("d1;r1,2;r2,1;p0 0 1;p1 0 1;w0 1 1 1;");
        String before = all(x);
        for (int n : odd) {
            due("bar(" + n + ", 0, 0)", x.bar(n, 0, 0), UNKNOWN);
            due("bar(0, " + n + ", 0)", x.bar(0, n, 0), UNKNOWN);
            due("lift(" + n + ", 1)", x.lift(n, 1), UNKNOWN);
            due("lift(1, " + n + ")", x.lift(1, n), UNKNOWN);
            due("person(" + n + ", 0)", x.person(n, 0), UNKNOWN);
            due("person(0, " + n + ")", x.person(0, n), OUTSIDE);
            due("wall(" + n + ", 0)", x.wall(n, 0), UNKNOWN);
            due("wall(0, " + n + ")", x.wall(0, n), OUTSIDE);
            due("keep(" + n + ")", x.keep(n), UNKNOWN);
            due("goBack(" + n + ")", x.goBack(n), UNKNOWN);
            due("modulation(0, " + n + ")", x.modulation(0, n), UNKNOWN);
            due("write(" + n + ", 0, 0)", x.write(n, 0, 0), UNKNOWN);
        }
        like("all", all(x), before);
    }
}
