import java.util.Arrays;

/** Rooms papered with sheet music, told in a text; see README.md. */
public final class MusicWalls {
    public static final int NONE = -1, UNKNOWN = -1000000001, OUTSIDE = -1000000002, NOT = -1000000003, FULL = -1000000004;

    private static final int LETTERS = 240, ROOMS = 6, BARS = 12, PERSONS = 5, WALLS = 6;
    private static final int HIGHEST = 9, KEYS = 12;
    private static final int LOG = 20, DEEDS = 30, IMAGES = 2, SIGHTS = 6, ENTRIES = 20;
    private static final int MET_MOST = 999999, HOURS_MOST = 90000, TRIED_MOST = 99, TOGETHER_MOST = 200;
    private static final int BILLION = 1000000000;

    private final Reader reader;
    private final House house;
    private final Life life;
    private final Life trial;
    private final Past past;
    private final Images images;
    private final Sight sight;
    private final Order order;
    private int chance;

    public MusicWalls() {
        reader = new Reader();
        house = new House();
        life = new Life(house);
        trial = new Life(house);
        past = new Past(house);
        images = new Images(house);
        sight = new Sight();
        order = new Order();
        chance = 0;
    }

    // ---- the house

    public int feed(int letter) {
        if (beyond(letter, 255)) return OUTSIDE;
        return reader.add(letter) ? reader.letters() : FULL;
    }

    public int house() {
        int number = reader.read();
        if (number != 0) return -10 - number;
        house.become(reader.draft());
        life.begin();
        past.forget();
        images.forget();
        sight.forget();
        return house.rooms;
    }

    public int fault() {
        return reader.place();
    }

    public int told(int what) {
        switch (what) {
            case 0: return house.told ? house.damp : NONE;
            case 1: return house.rooms;
            case 2: return house.persons;
            case 3: return house.walls;
            case 4: return reader.letters();
            case 5: return life.hours;
            case 6: return life.met;
            case 7: return life.loggedNow();
            case 8: return Readings.openRooms(life);
            case 9: return life.liftedInAll();
            case 10: return Readings.mostRead(life);
            case 11: return sight.seen();
            case 12: return sight.entries();
            case 13: return past.size();
            default: return OUTSIDE;
        }
    }

    public int room(int r, int what) {
        if (!house.hasRoom(r)) return UNKNOWN;
        switch (what) {
            case 0: return house.barsOf(r);
            case 1: return life.liftedIn(r);
            case 2: return Readings.keyOf(life, r);
            case 3: return Readings.repeatOf(life, r);
            case 4: return house.hasUnder(r) ? 1 : 0;
            default: return OUTSIDE;
        }
    }

    public int bar(int r, int b, int what) {
        if (!house.hasBar(r, b)) return UNKNOWN;
        switch (what) {
            case 0: return house.paperOf(r, b);
            case 1: return house.underOf(r, b);
            case 2: return life.reads(r, b);
            default: return OUTSIDE;
        }
    }

    public int person(int p, int what) {
        if (!house.hasPerson(p)) return UNKNOWN;
        switch (what) {
            case 0: return life.roomOf(p);
            case 1: return life.placeOf(p);
            case 2: return life.paceOf(p);
            case 3: return life.readBy(p);
            default: return OUTSIDE;
        }
    }

    public int wall(int w, int what) {
        if (!house.hasWall(w)) return UNKNOWN;
        if (beyond(what, 3)) return OUTSIDE;
        return house.wallPart(w, what);
    }

    public int logged(int i, int what) {
        if (beyond(what, 2)) return OUTSIDE;
        if (beyond(i, life.loggedNow() - 1)) return NONE;
        return life.meeting(i, what);
    }

    // ---- deeds

    public int hour(int n) {
        int refusal = refusalOfHours(n);
        if (refusal != 0) return refusal;
        for (int i = 0; i < n; i++) {
            past.add(life);
            Passing.anHour(life);
        }
        return life.met;
    }

    public int lift(int r, int b) {
        return turnByHand(r, b, false);
    }

    public int paste(int r, int b) {
        return turnByHand(r, b, true);
    }

    public int moveTo(int p, int r) {
        if (!house.hasPerson(p) || !house.hasRoom(r)) return UNKNOWN;
        int b = life.roomOf(p) == r ? NONE : Readings.firstThatReads(life, r, life.readBy(p));
        if (b == NONE) return NOT;
        past.add(life);
        life.setPlace(p, r, b);
        return b;
    }

    public int pace(int p, int n) {
        if (!house.hasPerson(p)) return UNKNOWN;
        if (beyond(n, HIGHEST)) return OUTSIDE;
        int was = life.paceOf(p);
        past.add(life);
        life.setPace(p, n);
        return was;
    }

    public int drift(int n) {
        int refusal = refusalOfHours(n);
        if (refusal != 0) return refusal;
        for (int i = 0; i < n; i++) {
            past.add(life);
            deedByDraws();
            Passing.anHour(life);
        }
        return life.met;
    }

    public int undo(int n) {
        if (n < 1 || n > DEEDS) return OUTSIDE;
        if (n > past.size()) return NOT;
        past.takeBack(n, life);
        return life.hours;
    }

    // ---- tried

    public int where(int p, int n) {
        if (!house.hasPerson(p)) return UNKNOWN;
        if (beyond(n, TRIED_MOST)) return OUTSIDE;
        meetingsTried(n);
        return trial.placeOf(p);
    }

    public int meets(int n) {
        if (beyond(n, TRIED_MOST)) return OUTSIDE;
        return meetingsTried(n);
    }

    public int together(int p, int q) {
        if (!house.hasPerson(p) || !house.hasPerson(q) || p == q) return UNKNOWN;
        trial.become(life);
        for (int n = 1; n <= TOGETHER_MOST; n++) {
            Passing.anHour(trial);
            if (Passing.areAtOneWall(trial, p, q)) return n;
        }
        return NONE;
    }

    public int canon(int r, int s, int k) {
        if (!areTwoRooms(r, s)) return UNKNOWN;
        if (beyond(k, BARS - 1)) return OUTSIDE;
        return Canons.alike(life, r, s, k);
    }

    public int bestCanon(int r, int s, int what) {
        if (!areTwoRooms(r, s)) return UNKNOWN;
        if (beyond(what, 1)) return OUTSIDE;
        int k = Canons.bestShift(life, r, s);
        return what == 0 ? k : Canons.alike(life, r, s, k);
    }

    public int match(int r, int s, int k, int what) {
        if (!areTwoRooms(r, s)) return UNKNOWN;
        if (beyond(k, BARS - 1) || beyond(what, 1)) return OUTSIDE;
        int turned = Canons.barsToTurn(life, r, s, k);
        return what == 1 || turned == NONE ? turned : Integer.bitCount(turned);
    }

    public int join(int r, int s) {
        if (!areTwoRooms(r, s)) return UNKNOWN;
        return Readings.sharedEnd(life, r, s);
    }

    public int shortest(int what) {
        if (beyond(what, 1)) return OUTSIDE;
        if (house.rooms == 0) return NONE;
        order.reckon(life);
        return what == 0 ? order.fewestBars() : order.leastNumber();
    }

    public int nearest(int r) {
        if (!house.hasRoom(r)) return UNKNOWN;
        return Readings.nearestRoom(life, r);
    }

    public int modulation(int r, int s) {
        if (!house.hasRoom(r) || !house.hasRoom(s)) return UNKNOWN;
        return Readings.stepsBetween(life, r, s);
    }

    public int sounds(int x) {
        if (beyond(x, HIGHEST)) return OUTSIDE;
        int set = 0;
        for (int p = 0; p < house.persons; p++) {
            if (life.readBy(p) == x) set |= 1 << p;
        }
        return set;
    }

    public int dry(int n, int q) {
        if (beyond(n, 60) || beyond(q, 100)) return OUTSIDE;
        long odds = BILLION;
        for (int i = 0; i < n; i++) odds = odds * q / 100;
        return (int) odds;
    }

    // ---- what was seen

    public int see(int d, int x) {
        if (beyond(d, BARS - 1) || beyond(x, HIGHEST)) return OUTSIDE;
        return sight.addSeen(d, x) ? sight.seen() : FULL;
    }

    public int places(int what) {
        if (beyond(what, 2)) return OUTSIDE;
        sight.findPlaces(life);
        if (what == 0) return sight.found();
        return what == 1 ? sight.firstFound() : sight.roomsFound();
    }

    public int lookAt() {
        sight.findPlaces(life);
        return sight.bestLook(life);
    }

    public int write(int r, int b, int x) {
        if (!house.hasBar(r, b)) return UNKNOWN;
        if (beyond(x, HIGHEST)) return OUTSIDE;
        return sight.addEntry(r, b, x) ? sight.entries() : FULL;
    }

    public int judge() {
        return sight.firstWrong(life);
    }

    public int tear() {
        int had = sight.seen() + sight.entries();
        sight.forget();
        return had;
    }

    // ---- images

    public int seed(int v) {
        if (v < 0) return OUTSIDE;
        int was = chance;
        chance = v;
        return was;
    }

    public int keep(int i) {
        if (beyond(i, IMAGES - 1)) return UNKNOWN;
        images.store(i, life, chance);
        past.forget();
        return 1;
    }

    public int goBack(int i) {
        if (beyond(i, IMAGES - 1)) return UNKNOWN;
        if (!images.has(i)) return NOT;
        images.restore(i, life);
        chance = images.chanceOf(i);
        past.forget();
        return 1;
    }

    // ---- what several calls need

    private static boolean beyond(int n, int most) {
        return n < 0 || n > most;
    }

    private boolean areTwoRooms(int r, int s) {
        return house.hasRoom(r) && house.hasRoom(s) && r != s;
    }

    /** 0 when n HOURS may pass now. */
    private int refusalOfHours(int n) {
        if (n < 1 || n > DEEDS) return OUTSIDE;
        if (!house.told) return NOT;
        return life.hours > HOURS_MOST ? FULL : 0;
    }

    private int turnByHand(int r, int b, boolean lifted) {
        if (!house.hasBar(r, b)) return UNKNOWN;
        if (life.isLifted(r, b) != lifted) return NOT;
        past.add(life);
        life.turn(r, b);
        return life.reads(r, b);
    }

    private int meetingsTried(int n) {
        trial.become(life);
        int meetings = 0;
        for (int i = 0; i < n; i++) meetings += Passing.anHour(trial);
        return meetings;
    }

    private int draw(int n) {
        chance = (int) ((chance * 1103515245L + 12345L) & 0x7fffffffL);
        return Rows.leftOver(chance / 65536, n);
    }

    private void deedByDraws() {
        if (house.rooms == 0) return;
        int kind = draw(4);
        if (kind == 0) {
            int r = draw(house.rooms);
            life.turn(r, draw(house.barsOf(r)));
        } else if (kind == 1 && house.persons > 0) {
            int p = draw(house.persons);
            life.setPace(p, draw(HIGHEST + 1));
        }
    }

    /** Rows, sets and divisions that have an answer for every number. */
    private static final class Rows {
        static int at(int[] row, int i) {
            return i >= 0 && i < row.length ? row[i] : 0;
        }

        static void put(int[] row, int i, int value) {
            if (i >= 0 && i < row.length) row[i] = value;
        }

        static void copy(int[] from, int[] to) {
            System.arraycopy(from, 0, to, 0, Math.min(from.length, to.length));
        }

        static int leftOver(int n, int by) {
            return by > 0 ? n % by : 0;
        }

        static boolean isIn(int set, int k) {
            return k >= 0 && k < 31 && (set >> k & 1) == 1;
        }
    }

    /** What a text tells. */
    private static final class House {
        private boolean told;
        private int damp;
        private int rooms;
        private int persons;
        private int walls;
        private int underTold;
        private final int[] bars = new int[ROOMS];
        private final int[] paper = new int[ROOMS * BARS];
        private final int[] under = new int[ROOMS * BARS];
        private final int[] personParts = new int[PERSONS * 3];
        private final int[] wallParts = new int[WALLS * 4];

        void clear() {
            told = false;
            damp = 0;
            rooms = 0;
            persons = 0;
            walls = 0;
            underTold = 0;
            Arrays.fill(bars, 0);
            Arrays.fill(paper, 0);
            Arrays.fill(under, 0);
        }

        void become(House other) {
            told = other.told;
            damp = other.damp;
            rooms = other.rooms;
            persons = other.persons;
            walls = other.walls;
            underTold = other.underTold;
            Rows.copy(other.bars, bars);
            Rows.copy(other.paper, paper);
            Rows.copy(other.under, under);
            Rows.copy(other.personParts, personParts);
            Rows.copy(other.wallParts, wallParts);
        }

        boolean hasRoom(int r) {
            return r >= 0 && r < rooms;
        }

        boolean hasBar(int r, int b) {
            return hasRoom(r) && b >= 0 && b < barsOf(r);
        }

        boolean hasPerson(int p) {
            return p >= 0 && p < persons;
        }

        boolean hasWall(int w) {
            return w >= 0 && w < walls;
        }

        boolean hasUnder(int r) {
            return Rows.isIn(underTold, r);
        }

        int barsOf(int r) {
            return Rows.at(bars, r);
        }

        int paperOf(int r, int b) {
            return Rows.at(paper, r * BARS + b);
        }

        int underOf(int r, int b) {
            return Rows.at(under, r * BARS + b);
        }

        int personPart(int p, int what) {
            return Rows.at(personParts, p * 3 + what);
        }

        int wallPart(int w, int what) {
            return Rows.at(wallParts, w * 4 + what);
        }

        void putPaper(int r, int b, int x) {
            Rows.put(paper, r * BARS + b, x);
        }

        void putUnder(int r, int b, int x) {
            Rows.put(under, r * BARS + b, x);
        }

        void putPerson(int what, int value) {
            Rows.put(personParts, persons * 3 + what, value);
        }

        void putWall(int what, int value) {
            Rows.put(wallParts, walls * 4 + what, value);
        }

        void addRoom(int count) {
            Rows.put(bars, rooms, count);
            rooms++;
        }
    }

    /** Reads THE TEXT into a draft; only the first fault is noted, what is read behind it is thrown away with the draft. */
    private static final class Reader {
        private static final int CANNOT_STAND = 1, OUT_OF_BOUNDS = 2, TOO_OFTEN = 3, TOLD_ALREADY = 4;

        private final House draft = new House();
        private final int[] text = new int[LETTERS];
        private int length = 0;
        private int at = 0;
        private int first = 0;
        private int number = 0;
        private int place = NONE;

        int letters() {
            return length;
        }

        int place() {
            return place;
        }

        House draft() {
            return draft;
        }

        boolean add(int letter) {
            if (length >= LETTERS) return false;
            Rows.put(text, length, letter);
            length++;
            return true;
        }

        /** The number of THE TEXT's fault, or 0. */
        int read() {
            draft.clear();
            at = 0;
            number = 0;
            place = NONE;
            skipBlanks();
            for (int i = 0; i < LETTERS && number == 0 && at < length; i++) {
                readClause();
                skipBlanks();
            }
            length = 0;
            return number;
        }

        private void readClause() {
            int word = letter();
            if (!draft.told && word != 'd') {
                fail(CANNOT_STAND, at);
                return;
            }
            switch (word) {
                case 'd': readDamp(); break;
                case 'r': readRoom(); break;
                case 'u': readUnder(); break;
                case 'p': readPerson(); break;
                case 'w': readWall(); break;
                default: fail(CANNOT_STAND, at);
            }
        }

        private void readDamp() {
            if (draft.told) fail(TOO_OFTEN, at);
            at++;
            draft.told = true;
            draft.damp = readNumber(99);
            expect(';');
        }

        private void readRoom() {
            if (draft.rooms >= ROOMS) fail(TOO_OFTEN, at);
            at++;
            int n = 0;
            do {
                draft.putPaper(draft.rooms, n, readNumber(HIGHEST));
                n++;
            } while (n < BARS && accept(','));
            expect(';');
            draft.addRoom(n);
        }

        private void readUnder() {
            at++;
            int r = readNumber(draft.rooms - 1);
            if (draft.hasUnder(r)) fail(TOLD_ALREADY, first);
            int count = draft.barsOf(r);
            for (int b = 0; b < count; b++) {
                if (b > 0) expect(',');
                draft.putUnder(r, b, readNumber(HIGHEST));
            }
            expect(';');
            draft.underTold |= 1 << r;
        }

        private void readPerson() {
            if (draft.persons >= PERSONS) fail(TOO_OFTEN, at);
            at++;
            int r = readNumber(draft.rooms - 1);
            draft.putPerson(0, r);
            draft.putPerson(1, readNumber(draft.barsOf(r) - 1));
            draft.putPerson(2, readNumber(HIGHEST));
            expect(';');
            draft.persons++;
        }

        private void readWall() {
            if (draft.walls >= WALLS) fail(TOO_OFTEN, at);
            at++;
            int r = readNumber(draft.rooms - 1);
            draft.putWall(0, r);
            draft.putWall(1, readNumber(draft.barsOf(r) - 1));
            int s = readNumber(draft.rooms - 1);
            if (s == r) fail(TOLD_ALREADY, first);
            draft.putWall(2, s);
            draft.putWall(3, readNumber(draft.barsOf(s) - 1));
            expect(';');
            draft.walls++;
        }

        private int readNumber(int most) {
            skipBlanks();
            first = at;
            int value = 0;
            for (; at < length && isFigure(letter()); at++) {
                value = Math.min(1000, value * 10 + letter() - '0');
            }
            if (at == first) fail(CANNOT_STAND, first);
            else if (at - first > 3 || value > most) fail(OUT_OF_BOUNDS, first);
            return value;
        }

        private void expect(int sign) {
            skipBlanks();
            if (letter() == sign) at++;
            else fail(CANNOT_STAND, at);
        }

        private boolean accept(int sign) {
            skipBlanks();
            if (letter() != sign) return false;
            at++;
            return true;
        }

        private void skipBlanks() {
            while (at < length && letter() == ' ') at++;
        }

        /** NONE at the end, which is like no letter. */
        private int letter() {
            return at >= 0 && at < length && at < text.length ? text[at] : NONE;
        }

        private static boolean isFigure(int letter) {
            return letter >= '0' && letter <= '9';
        }

        private void fail(int faultNumber, int faultPlace) {
            if (number != 0) return;
            number = faultNumber;
            place = faultPlace;
        }
    }

    /** All that deeds change: which BARS are LIFTED, where PERSONS are, HOURS, who MET. */
    private static final class Life {
        private final House house;
        private int hours = 0;
        private int met = 0;
        private int meetings = 0;
        private final int[] lifted = new int[ROOMS];
        private final int[] roomsOf = new int[PERSONS];
        private final int[] placesOf = new int[PERSONS];
        private final int[] pacesOf = new int[PERSONS];
        private final int[] log = new int[LOG];

        Life(House house) {
            this.house = house;
        }

        void begin() {
            hours = 0;
            met = 0;
            meetings = 0;
            Arrays.fill(lifted, 0);
            for (int p = 0; p < house.persons; p++) {
                setPlace(p, house.personPart(p, 0), house.personPart(p, 1));
                setPace(p, house.personPart(p, 2));
            }
        }

        void become(Life other) {
            hours = other.hours;
            met = other.met;
            meetings = other.meetings;
            Rows.copy(other.lifted, lifted);
            Rows.copy(other.roomsOf, roomsOf);
            Rows.copy(other.placesOf, placesOf);
            Rows.copy(other.pacesOf, pacesOf);
            Rows.copy(other.log, log);
        }

        int liftedIn(int r) {
            return Rows.at(lifted, r);
        }

        int liftedInAll() {
            int sum = 0;
            for (int r = 0; r < house.rooms; r++) sum += Integer.bitCount(liftedIn(r));
            return sum;
        }

        boolean isLifted(int r, int b) {
            return Rows.isIn(Rows.at(lifted, r), b);
        }

        /** LIFTS a BAR that is not LIFTED, PASTES one that is. */
        void turn(int r, int b) {
            Rows.put(lifted, r, liftedIn(r) ^ 1 << b);
        }

        int reads(int r, int b) {
            return isLifted(r, b) ? house.underOf(r, b) : house.paperOf(r, b);
        }

        int readsRound(int r, int b) {
            return reads(r, Rows.leftOver(b, house.barsOf(r)));
        }

        int roomOf(int p) {
            return Rows.at(roomsOf, p);
        }

        int placeOf(int p) {
            return Rows.at(placesOf, p);
        }

        int paceOf(int p) {
            return Rows.at(pacesOf, p);
        }

        int readBy(int p) {
            return reads(roomOf(p), placeOf(p));
        }

        boolean isAt(int p, int r, int b) {
            return Rows.at(roomsOf, p) == r && Rows.at(placesOf, p) == b;
        }

        void setPlace(int p, int r, int b) {
            Rows.put(roomsOf, p, r);
            Rows.put(placesOf, p, b);
        }

        void setPace(int p, int n) {
            Rows.put(pacesOf, p, n);
        }

        void addMeeting(int w, int p, int q) {
            met = Math.min(MET_MOST, met + 1);
            Rows.put(log, Rows.leftOver(meetings, LOG), w * 100 + p * 10 + q);
            meetings++;
        }

        int loggedNow() {
            return Math.min(LOG, meetings);
        }

        /** Of the meeting that is i behind the latest: 0 the WALL, 1 who at A, 2 who at B. */
        int meeting(int i, int what) {
            int entry = Rows.at(log, Rows.leftOver(meetings - 1 - i, LOG));
            if (what == 0) return entry / 100;
            return what == 1 ? entry / 10 % 10 : entry % 10;
        }
    }

    /** How an HOUR passes. */
    private static final class Passing {
        /** How many MEET in it. */
        static int anHour(Life life) {
            House house = life.house;
            for (int p = 0; p < house.persons; p++) goOn(life, p);
            int before = life.meetings;
            for (int w = 0; w < house.walls; w++) meetThrough(life, w);
            life.hours++;
            if (house.damp > 0 && life.hours % house.damp == 0) {
                dampLifts(life, life.hours / house.damp - 1);
            }
            return life.meetings - before;
        }

        static boolean areAtOneWall(Life life, int p, int q) {
            for (int w = 0; w < life.house.walls; w++) {
                if (isAtA(life, p, w) && isAtB(life, q, w)) return true;
                if (isAtA(life, q, w) && isAtB(life, p, w)) return true;
            }
            return false;
        }

        private static void goOn(Life life, int p) {
            int r = life.roomOf(p);
            int b = life.placeOf(p);
            int bars = life.house.barsOf(r);
            int steps = life.paceOf(p);
            for (int i = 0; i < steps; i++) {
                b = Rows.leftOver(b + 1, bars);
                if (life.reads(r, b) == 0) break;
            }
            life.setPlace(p, r, b);
        }

        private static void meetThrough(Life life, int w) {
            int persons = life.house.persons;
            for (int p = 0; p < persons; p++) {
                if (!isAtA(life, p, w)) continue;
                for (int q = 0; q < persons; q++) {
                    if (isAtB(life, q, w)) life.addMeeting(w, p, q);
                }
            }
        }

        private static boolean isAtA(Life life, int p, int w) {
            return life.isAt(p, life.house.wallPart(w, 0), life.house.wallPart(w, 1));
        }

        private static boolean isAtB(Life life, int p, int w) {
            return life.isAt(p, life.house.wallPart(w, 2), life.house.wallPart(w, 3));
        }

        private static void dampLifts(Life life, int k) {
            int rooms = life.house.rooms;
            if (rooms <= 0) return;
            int r = k % rooms;
            int b = Rows.leftOver(k / rooms, life.house.barsOf(r));
            if (!life.isLifted(r, b)) life.turn(r, b);
        }
    }

    /** What ROOMS READ, each by itself and from one to another. */
    private static final class Readings {
        static int keyOf(Life life, int r) {
            int sum = 0;
            int bars = life.house.barsOf(r);
            for (int b = 0; b < bars; b++) sum += life.reads(r, b);
            return sum % KEYS;
        }

        static int repeatOf(Life life, int r) {
            int bars = life.house.barsOf(r);
            for (int p = 1; p < bars; p++) {
                if (repeatsBy(life, r, p)) return p;
            }
            return bars;
        }

        private static boolean repeatsBy(Life life, int r, int p) {
            int bars = life.house.barsOf(r);
            for (int b = 0; b < bars; b++) {
                if (life.reads(r, b) != life.readsRound(r, b + p)) return false;
            }
            return true;
        }

        static int openRooms(Life life) {
            int set = 0;
            for (int r = 0; r < life.house.rooms; r++) {
                if (life.reads(r, life.house.barsOf(r) - 1) != life.reads(r, 0)) set |= 1 << r;
            }
            return set;
        }

        static int mostRead(Life life) {
            int best = NONE;
            int most = 0;
            for (int x = 1; x <= HIGHEST; x++) {
                int count = howManyRead(life, x);
                if (count > most) {
                    most = count;
                    best = x;
                }
            }
            return best;
        }

        private static int howManyRead(Life life, int x) {
            int count = 0;
            for (int r = 0; r < life.house.rooms; r++) {
                int bars = life.house.barsOf(r);
                for (int b = 0; b < bars; b++) {
                    if (life.reads(r, b) == x) count++;
                }
            }
            return count;
        }

        static int firstThatReads(Life life, int r, int x) {
            int bars = life.house.barsOf(r);
            for (int b = 0; b < bars; b++) {
                if (life.reads(r, b) == x) return b;
            }
            return NONE;
        }

        /** The JOIN of r and s. */
        static int sharedEnd(Life life, int r, int s) {
            int bars = life.house.barsOf(r);
            for (int n = Math.min(bars, life.house.barsOf(s)); n > 0; n--) {
                if (endsAsBegins(life, r, s, n)) return n;
            }
            return 0;
        }

        private static boolean endsAsBegins(Life life, int r, int s, int n) {
            int from = life.house.barsOf(r) - n;
            for (int b = 0; b < n; b++) {
                if (life.reads(r, from + b) != life.reads(s, b)) return false;
            }
            return true;
        }

        static int nearestRoom(Life life, int r) {
            int key = keyOf(life, r);
            int best = NONE;
            int least = KEYS;
            for (int s = 0; s < life.house.rooms; s++) {
                int away = between(key, keyOf(life, s));
                if (s != r && away < least) {
                    least = away;
                    best = s;
                }
            }
            return best;
        }

        private static int between(int key, int other) {
            int away = Math.abs(key - other);
            return Math.min(away, KEYS - away);
        }

        /** The MODULATION: each round reaches all ROOMS that are one step further. */
        static int stepsBetween(Life life, int r, int s) {
            int reached = 1 << r;
            for (int steps = 0; steps < ROOMS; steps++) {
                if (Rows.isIn(reached, s)) return steps;
                reached = oneStepOn(life, reached);
            }
            return NONE;
        }

        private static int oneStepOn(Life life, int reached) {
            int set = reached;
            for (int r = 0; r < life.house.rooms; r++) {
                if (!Rows.isIn(reached, r)) continue;
                int key = keyOf(life, r);
                for (int s = 0; s < life.house.rooms; s++) {
                    if (between(key, keyOf(life, s)) <= 2) set |= 1 << s;
                }
            }
            return set;
        }
    }

    /** Two ROOMS in CANON. */
    private static final class Canons {
        static int alike(Life life, int r, int s, int k) {
            int count = 0;
            int bars = life.house.barsOf(r);
            for (int b = 0; b < bars; b++) {
                if (life.reads(r, b) == life.readsRound(s, b + k)) count++;
            }
            return count;
        }

        static int bestShift(Life life, int r, int s) {
            int best = 0;
            int most = NONE;
            int bars = life.house.barsOf(s);
            for (int k = 0; k < bars; k++) {
                int count = alike(life, r, s, k);
                if (count > most) {
                    most = count;
                    best = k;
                }
            }
            return best;
        }

        /** The SET of BARS that r must turn, or NONE. */
        static int barsToTurn(Life life, int r, int s, int k) {
            int set = 0;
            int bars = life.house.barsOf(r);
            for (int b = 0; b < bars; b++) {
                int wanted = life.readsRound(s, b + k);
                if (life.reads(r, b) == wanted) continue;
                int turned = life.isLifted(r, b) ? life.house.paperOf(r, b) : life.house.underOf(r, b);
                if (turned != wanted) return NONE;
                set |= 1 << b;
            }
            return set;
        }
    }

    /** The SHORTEST ORDER: for each set of ROOMS yet to come and each ROOM ahead of them, the fewest BARS they add. */
    private static final class Order {
        private static final int NOBODY = ROOMS, AHEAD = ROOMS + 1;

        private final int[] added = new int[AHEAD * ROOMS];
        private final int[] fewest = new int[AHEAD << ROOMS];
        private int rooms = 0;

        void reckon(Life life) {
            rooms = life.house.rooms;
            for (int s = 0; s < rooms; s++) {
                int bars = life.house.barsOf(s);
                for (int r = 0; r < rooms; r++) {
                    int shared = r == s ? 0 : Readings.sharedEnd(life, r, s);
                    Rows.put(added, r * ROOMS + s, bars - shared);
                }
                Rows.put(added, NOBODY * ROOMS + s, bars);
            }
            for (int set = 0; set < 1 << rooms; set++) {
                for (int ahead = 0; ahead < AHEAD; ahead++) {
                    Rows.put(fewest, set * AHEAD + ahead, barsBehind(set, ahead));
                }
            }
        }

        int fewestBars() {
            return Rows.at(fewest, ((1 << rooms) - 1) * AHEAD + NOBODY);
        }

        int leastNumber() {
            int number = 0;
            int set = (1 << rooms) - 1;
            int ahead = NOBODY;
            for (int i = 0; i < rooms; i++) {
                int s = firstBest(set, ahead);
                number = number * 10 + s + 1;
                set &= ~(1 << s);
                ahead = s;
            }
            return number;
        }

        private int barsBehind(int set, int ahead) {
            return set == 0 ? 0 : barsWith(set, ahead, firstBest(set, ahead));
        }

        /** The least ROOM of a set that can come next at the fewest BARS. */
        private int firstBest(int set, int ahead) {
            int best = 0;
            int least = ROOMS * BARS + 1;
            for (int s = 0; s < rooms; s++) {
                if (!Rows.isIn(set, s)) continue;
                int bars = barsWith(set, ahead, s);
                if (bars < least) {
                    least = bars;
                    best = s;
                }
            }
            return best;
        }

        private int barsWith(int set, int ahead, int s) {
            return Rows.at(added, ahead * ROOMS + s) + Rows.at(fewest, (set & ~(1 << s)) * AHEAD + s);
        }
    }

    /** What was SEEN, and THE BOOK. */
    private static final class Sight {
        private final int[] offs = new int[SIGHTS];
        private final int[] signs = new int[SIGHTS];
        private final int[] bookRooms = new int[ENTRIES];
        private final int[] bookBars = new int[ENTRIES];
        private final int[] bookSigns = new int[ENTRIES];
        private final int[] foundAt = new int[ROOMS * BARS];
        private final int[] parts = new int[HIGHEST + 1];
        private int seen = 0;
        private int entries = 0;
        private int found = 0;

        int seen() {
            return seen;
        }

        int entries() {
            return entries;
        }

        void forget() {
            seen = 0;
            entries = 0;
        }

        boolean addSeen(int d, int x) {
            if (seen >= SIGHTS) return false;
            Rows.put(offs, seen, d);
            Rows.put(signs, seen, x);
            seen++;
            return true;
        }

        boolean addEntry(int r, int b, int x) {
            if (entries >= ENTRIES) return false;
            Rows.put(bookRooms, entries, r);
            Rows.put(bookBars, entries, b);
            Rows.put(bookSigns, entries, x);
            entries++;
            return true;
        }

        int firstWrong(Life life) {
            for (int i = 0; i < entries; i++) {
                int now = life.reads(Rows.at(bookRooms, i), Rows.at(bookBars, i));
                if (now != Rows.at(bookSigns, i)) return i;
            }
            return NONE;
        }

        void findPlaces(Life life) {
            found = 0;
            for (int r = 0; r < life.house.rooms; r++) {
                int bars = life.house.barsOf(r);
                for (int b = 0; b < bars; b++) {
                    if (!fits(life, r, b)) continue;
                    Rows.put(foundAt, found, r * 100 + b);
                    found++;
                }
            }
        }

        int found() {
            return found;
        }

        int firstFound() {
            return found == 0 ? NONE : Rows.at(foundAt, 0);
        }

        int roomsFound() {
            int set = 0;
            for (int i = 0; i < found; i++) set |= 1 << Rows.at(foundAt, i) / 100;
            return set;
        }

        int bestLook(Life life) {
            int best = NONE;
            int least = found;
            for (int d = 0; d < BARS; d++) {
                int greatest = greatestPart(life, d);
                if (greatest < least) {
                    least = greatest;
                    best = d;
                }
            }
            return best;
        }

        private boolean fits(Life life, int r, int b) {
            for (int i = 0; i < seen; i++) {
                if (life.readsRound(r, b + Rows.at(offs, i)) != Rows.at(signs, i)) return false;
            }
            return true;
        }

        private int greatestPart(Life life, int d) {
            Arrays.fill(parts, 0);
            int greatest = 0;
            for (int i = 0; i < found; i++) {
                int place = Rows.at(foundAt, i);
                int x = life.readsRound(place / 100, place % 100 + d);
                int part = Rows.at(parts, x) + 1;
                Rows.put(parts, x, part);
                greatest = Math.max(greatest, part);
            }
            return greatest;
        }
    }

    /** What was so ahead of each of the latest deeds. */
    private static final class Past {
        private final Life[] ahead = new Life[DEEDS];
        private int size = 0;
        private int next = 0;

        Past(House house) {
            for (int i = 0; i < ahead.length; i++) ahead[i] = new Life(house);
        }

        int size() {
            return size;
        }

        void forget() {
            size = 0;
        }

        void add(Life life) {
            Life kept = kept(next);
            if (kept == null) return;
            kept.become(life);
            next = (next + 1) % DEEDS;
            size = Math.min(DEEDS, size + 1);
        }

        void takeBack(int n, Life life) {
            int i = (next + DEEDS - n) % DEEDS;
            Life kept = kept(i);
            if (kept == null) return;
            life.become(kept);
            next = i;
            size -= n;
        }

        private Life kept(int i) {
            return i >= 0 && i < ahead.length ? ahead[i] : null;
        }
    }

    private static final class Images {
        private final Life[] lives = new Life[IMAGES];
        private final int[] chances = new int[IMAGES];
        private int kept = 0;

        Images(House house) {
            for (int i = 0; i < lives.length; i++) lives[i] = new Life(house);
        }

        void forget() {
            kept = 0;
        }

        boolean has(int i) {
            return Rows.isIn(kept, i);
        }

        void store(int i, Life life, int chance) {
            if (i < 0 || i >= lives.length || lives[i] == null) return;
            lives[i].become(life);
            Rows.put(chances, i, chance);
            kept |= 1 << i;
        }

        void restore(int i, Life life) {
            if (i < 0 || i >= lives.length || lives[i] == null) return;
            life.become(lives[i]);
        }

        int chanceOf(int i) {
            return Rows.at(chances, i);
        }
    }
}
