import java.util.Random;

/** Runs of 512 calls drawn by fixed seeds, each answer compared with Reference's. */
public final class RandomRunTests {
    private static final int RUNS = 4000, CALLS = 512;
    private static final int[] ODD = {-1, -2, 6, 10, 12, 13, 20, 30, 31, 32, 33, 63, 64, 99, 100, 101, 255, 256, 1000, 65536,
        Integer.MAX_VALUE, Integer.MIN_VALUE, Integer.MAX_VALUE - 1, Integer.MIN_VALUE + 1, 178956971, 1 << 30, 1 << 31};

    private final Random random;
    private final MusicWalls x = new MusicWalls();
    private final Reference y = new Reference();
    private int calls = 0;
    private int wrong = 0;
    private String log = "";

    private RandomRunTests(long seed) {
        random = new Random(seed);
    }

    public static void main(String[] args) {
        int passed = 0, failed = 0;
        for (int run = 0; run < RUNS; run++) {
            RandomRunTests t = new RandomRunTests(run);
            try {
                t.run();
            } catch (RuntimeException e) {
                t.wrong++;
                System.out.println("run " + run + " threw " + e + " behind" + t.log);
            }
            if (t.wrong == 0) passed++;
            else failed++;
            if (failed >= 5) break;
        }
        System.out.println("RandomRunTests: " + passed + " passed, " + failed + " failed");
        if (failed > 0) System.exit(1);
    }

    private void run() {
        if (random.nextInt(20) > 0) text(random.nextInt(6) > 0);
        boolean texts = random.nextInt(5) == 0;
        while (calls < CALLS && wrong == 0) {
            if (texts && random.nextInt(40) == 0) text(random.nextBoolean());
            else call(random.nextInt(38));
        }
    }

    private void due(String call, int got, int want) {
        calls++;
        log = log.length() > 4000 ? log.substring(2000) + " " + call : log + " " + call;
        if (got == want || wrong > 0) return;
        wrong++;
        System.out.println(call + " answered " + got + ", due is " + want + ", behind" + log);
    }

    // ---- arguments

    private int upTo(int n) {
        return random.nextInt(n + 1);
    }

    /** Mostly from 0 to most, sometimes just outside, sometimes far. */
    private int some(int most) {
        int kind = random.nextInt(60);
        if (kind == 0) return ODD[random.nextInt(ODD.length)];
        if (kind == 1) return most + 1;
        if (kind == 2) return -1;
        return upTo(most);
    }

    private int aRoom() {
        return some(Math.max(0, y.rooms() - 1));
    }

    private int aBar(int r) {
        return some(y.isRoom(r) ? y.size(r) - 1 : 11);
    }

    private int aPerson() {
        return some(Math.max(0, y.h.people.size() - 1));
    }

    // ---- texts

    private void text(boolean whole) {
        String text = houseText();
        if (!whole) text = spoiled(text);
        if (text.length() > 245) text = text.substring(0, 245);
        for (int i = 0; i < text.length(); i++) {
            int c = text.charAt(i);
            due("feed(" + c + ")", x.feed(c), y.feed(c));
        }
        due("house()", x.house(), y.house());
        due("fault()", x.fault(), y.fault());
        for (int what = 0; what < 14; what++) due("told(" + what + ")", x.told(what), y.told(what));
    }

    private String blank() {
        return random.nextInt(25) == 0 ? " " : "";
    }

    private String houseText() {
        int damp = random.nextInt(3) == 0 ? upTo(99) : upTo(4);
        StringBuilder t = new StringBuilder(blank() + "d" + blank() + damp + blank() + ";");
        int rooms = random.nextInt(12) == 0 ? 0 : 1 + upTo(5);
        int highest = random.nextInt(3) == 0 ? 9 : 1 + upTo(2);
        int most = 1 + upTo(random.nextBoolean() ? 11 : 4);
        int[] bars = new int[rooms];
        for (int r = 0; r < rooms; r++) {
            bars[r] = 1 + upTo(most - 1);
            t.append("r").append(numbers(bars[r], highest)).append(";");
            if (random.nextInt(10) == 0) under(t, upTo(r), bars, highest, r);
        }
        for (int r = 0; r < rooms; r++) if (random.nextInt(3) > 0) under(t, r, bars, highest, rooms);
        if (rooms == 0) return t.toString();
        for (int i = upTo(5); i > 0; i--) {
            int r = upTo(rooms - 1);
            t.append("p").append(r).append(" ").append(upTo(bars[r] - 1)).append(" ").append(upTo(random.nextBoolean() ? 2 : 9)).append(";");
        }
        for (int i = upTo(6); i > 0 && rooms > 1; i--) {
            int r = upTo(rooms - 1), s = (r + 1 + upTo(rooms - 2)) % rooms;
            t.append("w").append(r).append(" ").append(upTo(bars[r] - 1)).append(" ").append(s).append(" ").append(upTo(bars[s] - 1)).append(";");
        }
        return t.toString();
    }

    private void under(StringBuilder t, int r, int[] bars, int highest, int rooms) {
        if (t.indexOf("u" + r + " ") < 0 && r < rooms) t.append("u").append(r).append(" ").append(numbers(bars[r], highest)).append(";");
    }

    private String numbers(int n, int highest) {
        StringBuilder t = new StringBuilder();
        for (int i = 0; i < n; i++) t.append(i > 0 ? "," : "").append(blank()).append(upTo(highest)).append(blank());
        return t.toString();
    }

    private String spoiled(String text) {
        StringBuilder t = new StringBuilder(text);
        String signs = "drupw;, 0123456789x#\u00ff\t";
        for (int i = upTo(3); i >= 0; i--) {
            int at = upTo(t.length());
            int kind = random.nextInt(6);
            if (kind == 0) t.setLength(at);
            else if (kind == 1 && at < t.length()) t.deleteCharAt(at);
            else if (kind == 2 && at < t.length()) t.setCharAt(at, signs.charAt(random.nextInt(signs.length())));
            else if (kind == 3) t.append(text, text.lastIndexOf(';', Math.max(0, text.length() - 2 - upTo(40))) + 1, text.length());
            else t.insert(at, signs.charAt(random.nextInt(signs.length())));
        }
        return t.toString();
    }

    // ---- calls

    private void call(int kind) {
        if (kind < 9) ask(kind);
        else if (kind < 17) deed(kind);
        else if (kind < 28) tryOut(kind);
        else sight(kind);
    }

    private void ask(int kind) {
        int r = aRoom(), b = aBar(r), p = aPerson(), i = some(20), what;
        switch (kind) {
            case 0: case 1: case 2: what = some(13); due("told(" + what + ")", x.told(what), y.told(what)); break;
            case 3: what = some(4); due("room(" + r + ", " + what + ")", x.room(r, what), y.room(r, what)); break;
            case 4: what = some(2); due("bar(" + r + ", " + b + ", " + what + ")", x.bar(r, b, what), y.bar(r, b, what)); break;
            case 5: what = some(3); due("person(" + p + ", " + what + ")", x.person(p, what), y.person(p, what)); break;
            case 6: what = some(3); i = some(5); due("wall(" + i + ", " + what + ")", x.wall(i, what), y.wall(i, what)); break;
            case 7: what = some(2); due("logged(" + i + ", " + what + ")", x.logged(i, what), y.logged(i, what)); break;
            default: feedOrFault();
        }
    }

    private void feedOrFault() {
        int letter = some(255);
        if (random.nextInt(10) == 0) due("feed(" + letter + ")", x.feed(letter), y.feed(letter));
        else due("fault()", x.fault(), y.fault());
        if (random.nextInt(200) == 0) due("house()", x.house(), y.house());
    }

    private void deed(int kind) {
        int r = aRoom(), b = aBar(r), p = aPerson(), n = random.nextInt(4) == 0 ? some(30) : 1 + upTo(2);
        switch (kind) {
            case 9: due("hour(" + n + ")", x.hour(n), y.hour(n)); break;
            case 10: due("lift(" + r + ", " + b + ")", x.lift(r, b), y.lift(r, b)); break;
            case 11: due("paste(" + r + ", " + b + ")", x.paste(r, b), y.paste(r, b)); break;
            case 12: due("moveTo(" + p + ", " + r + ")", x.moveTo(p, r), y.moveTo(p, r)); break;
            case 13: n = some(9); due("pace(" + p + ", " + n + ")", x.pace(p, n), y.pace(p, n)); break;
            case 14: due("drift(" + n + ")", x.drift(n), y.drift(n)); break;
            default: due("undo(" + n + ")", x.undo(n), y.undo(n));
        }
    }

    private void tryOut(int kind) {
        int r = aRoom(), s = aRoom(), p = aPerson(), q = aPerson(), n = some(99), k = some(11), what = some(1), f = some(9);
        switch (kind) {
            case 17: due("where(" + p + ", " + n + ")", x.where(p, n), y.where(p, n)); break;
            case 18: due("meets(" + n + ")", x.meets(n), y.meets(n)); break;
            case 19: due("together(" + p + ", " + q + ")", x.together(p, q), y.together(p, q)); break;
            case 20: due("canon(" + r + ", " + s + ", " + k + ")", x.canon(r, s, k), y.canon(r, s, k)); break;
            case 21: due("bestCanon(" + r + ", " + s + ", " + what + ")", x.bestCanon(r, s, what), y.bestCanon(r, s, what)); break;
            case 22: due("match(" + r + ", " + s + ", " + k + ", " + what + ")", x.match(r, s, k, what), y.match(r, s, k, what)); break;
            case 23: due("join(" + r + ", " + s + ")", x.join(r, s), y.join(r, s)); break;
            case 24: due("shortest(" + what + ")", x.shortest(what), y.shortest(what)); break;
            case 25: due("nearest(" + r + ")", x.nearest(r), y.nearest(r)); break;
            case 26: due("modulation(" + r + ", " + s + ")", x.modulation(r, s), y.modulation(r, s)); break;
            default: due("sounds(" + f + ")", x.sounds(f), y.sounds(f));
        }
    }

    private void sight(int kind) {
        int r = aRoom(), b = aBar(r), d = some(11), f = some(random.nextBoolean() ? 9 : 2), i = some(1), what = some(2);
        int v = random.nextInt(20) == 0 ? ODD[random.nextInt(ODD.length)] : random.nextInt();
        switch (kind) {
            case 28: due("dry", x.dry(d * 5, f * 11), y.dry(d * 5, f * 11)); break;
            case 29: if (random.nextInt(3) == 0) due("see(" + d + ", " + f + ")", x.see(d, f), y.see(d, f)); break;
            case 30: due("places(" + what + ")", x.places(what), y.places(what)); break;
            case 31: due("lookAt()", x.lookAt(), y.lookAt()); break;
            case 32: f = random.nextBoolean() && y.isBar(r, b) ? y.reads(r, b) : f;
                due("write(" + r + ", " + b + ", " + f + ")", x.write(r, b, f), y.write(r, b, f)); break;
            case 33: due("judge()", x.judge(), y.judge()); break;
            case 34: if (random.nextInt(4) == 0) due("tear()", x.tear(), y.tear()); break;
            case 35: due("seed(" + v + ")", x.seed(v), y.seed(v)); break;
            case 36: if (random.nextInt(4) == 0) due("keep(" + i + ")", x.keep(i), y.keep(i)); break;
            default: if (random.nextInt(4) == 0) due("goBack(" + i + ")", x.goBack(i), y.goBack(i));
        }
    }
}
