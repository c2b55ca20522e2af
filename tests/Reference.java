import java.util.ArrayDeque;
import java.util.ArrayList;
import java.util.Deque;
import java.util.HashMap;
import java.util.List;
import java.util.Map;
import java.util.TreeSet;

/** The document once more, in the slowest and plainest way, for RandomRunTests to compare with. */
final class Reference {
    static final int NONE = -1, UNKNOWN = -1000000001, OUTSIDE = -1000000002, NOT = -1000000003, FULL = -1000000004;

    /** All of section 2 of the document that changes. */
    static final class State {
        TreeSet<Integer> lifted = new TreeSet<>(); // 100 times the ROOM, and the BAR
        List<int[]> people = new ArrayList<>(); // ROOM, BAR, P
        List<int[]> log = new ArrayList<>(); // the latest at the end
        int hours, met;

        State copy() {
            State c = new State();
            c.lifted.addAll(lifted);
            for (int[] p : people) c.people.add(p.clone());
            c.log.addAll(log);
            c.hours = hours;
            c.met = met;
            return c;
        }
    }

    static final class Told {
        boolean is;
        int d;
        List<List<Integer>> papers = new ArrayList<>();
        Map<Integer, List<Integer>> unders = new HashMap<>();
        List<int[]> people = new ArrayList<>(), walls = new ArrayList<>();
    }

    StringBuilder text = new StringBuilder();
    int faultPlace = NONE;
    Told h = new Told();
    State s = new State();
    Deque<State> past = new ArrayDeque<>();
    State[] images = new State[2];
    long[] imageSeeds = new long[2];
    long seed;
    List<int[]> seen = new ArrayList<>(), book = new ArrayList<>();

    // ---- the text

    /** A fault is told by leaving the reading with it. */
    @SuppressWarnings("serial")
    static final class Fault extends RuntimeException {
        final int number, place;
        Fault(int number, int place) { super(null, null, false, false); this.number = number; this.place = place; }
    }

    record Token(char kind, int value, int figures, int place) { }

    static List<Token> tokens(String text) {
        List<Token> list = new ArrayList<>();
        int i = 0;
        while (i < text.length()) {
            char c = text.charAt(i);
            if (c == ' ') { i++; continue; }
            int j = i;
            while (j < text.length() && "0123456789".indexOf(text.charAt(j)) >= 0) j++;
            if (j > i) {
                list.add(new Token(NUMBER, j - i > 3 ? -7 : Integer.parseInt(text.substring(i, j)), j - i, i));
                i = j;
            } else {
                list.add(new Token(c == NUMBER ? '?' : c, 0, 0, i));
                i++;
            }
        }
        list.add(new Token(END, 0, 0, text.length()));
        return list;
    }

    static final char END = (char) 999, NUMBER = '#';

    static int number(Deque<Token> t, int bound) {
        Token x = t.peek();
        if (x.kind != NUMBER) throw new Fault(1, x.place);
        if (x.figures > 3 || x.value >= bound) throw new Fault(2, x.place);
        t.pop();
        return x.value;
    }

    static void sign(Deque<Token> t, char c) {
        if (t.peek().kind != c) throw new Fault(1, t.peek().place);
        t.pop();
    }

    static Told parse(String text) {
        Told h = new Told();
        Deque<Token> t = new ArrayDeque<>(tokens(text));
        while (t.peek().kind != END) {
            Token w = t.pop();
            if ("drupw".indexOf(w.kind) < 0) throw new Fault(1, w.place);
            if (!h.is && w.kind != 'd') throw new Fault(1, w.place);
            if (w.kind == 'd') {
                if (h.is) throw new Fault(3, w.place);
                h.is = true;
                h.d = number(t, 100);
            } else if (w.kind == 'r') {
                if (h.papers.size() == 6) throw new Fault(3, w.place);
                List<Integer> paper = new ArrayList<>();
                paper.add(number(t, 10));
                while (t.peek().kind == ',') {
                    if (paper.size() == 12) throw new Fault(1, t.peek().place);
                    t.pop();
                    paper.add(number(t, 10));
                }
                if (t.peek().kind == ';') h.papers.add(paper);
            } else if (w.kind == 'u') {
                Token at = t.peek();
                int r = number(t, h.papers.size());
                if (h.unders.containsKey(r)) throw new Fault(4, at.place);
                List<Integer> under = new ArrayList<>();
                under.add(number(t, 10));
                while (under.size() < h.papers.get(r).size()) {
                    sign(t, ',');
                    under.add(number(t, 10));
                }
                h.unders.put(r, under);
            } else if (w.kind == 'p') {
                if (h.people.size() == 5) throw new Fault(3, w.place);
                int r = number(t, h.papers.size());
                int b = number(t, h.papers.get(r).size());
                h.people.add(new int[] {r, b, number(t, 10)});
            } else {
                if (h.walls.size() == 6) throw new Fault(3, w.place);
                int r = number(t, h.papers.size());
                int a = number(t, h.papers.get(r).size());
                Token at = t.peek();
                int q = number(t, h.papers.size());
                if (q == r) throw new Fault(4, at.place);
                h.walls.add(new int[] {r, a, q, number(t, h.papers.get(q).size())});
            }
            sign(t, ';');
        }
        return h;
    }

    int feed(int letter) {
        if (letter < 0 || letter > 255) return OUTSIDE;
        if (text.length() == 240) return FULL;
        text.append((char) letter);
        return text.length();
    }

    int house() {
        String all = text.toString();
        text.setLength(0);
        try {
            h = parse(all);
        } catch (Fault f) {
            faultPlace = f.place;
            return -10 - f.number;
        }
        faultPlace = NONE;
        s = new State();
        for (int[] p : h.people) s.people.add(p.clone());
        past.clear();
        images = new State[2];
        seen.clear();
        book.clear();
        return rooms();
    }

    int fault() { return faultPlace; }

    // ---- readings

    int rooms() { return h.papers.size(); }
    boolean isRoom(int r) { return r >= 0 && r < rooms(); }
    boolean isBar(int r, int b) { return isRoom(r) && b >= 0 && b < size(r); }
    boolean isPerson(int p) { return p >= 0 && p < h.people.size(); }
    int size(int r) { return h.papers.get(r).size(); }
    int paper(int r, int b) { return h.papers.get(r).get(b); }
    int under(int r, int b) { return h.unders.containsKey(r) ? h.unders.get(r).get(b) : 0; }
    int reads(State st, int r, int b) { return st.lifted.contains(100 * r + b) ? under(r, b) : paper(r, b); }
    int reads(int r, int b) { return reads(s, r, b); }

    List<Integer> line(int r) {
        List<Integer> l = new ArrayList<>();
        for (int b = 0; b < size(r); b++) l.add(reads(r, b));
        return l;
    }

    List<Integer> turned(int r, int by) {
        List<Integer> l = line(r), out = new ArrayList<>();
        for (int i = 0; i < l.size(); i++) out.add(l.get((i + by) % l.size()));
        return out;
    }

    int key(int r) {
        int sum = 0;
        for (int x : line(r)) sum += x;
        return sum % 12;
    }

    int told(int what) {
        switch (what) {
            case 0: return h.is ? h.d : NONE;
            case 1: return rooms();
            case 2: return h.people.size();
            case 3: return h.walls.size();
            case 4: return text.length();
            case 5: return s.hours;
            case 6: return s.met;
            case 7: return s.log.size();
            case 8: {
                int set = 0;
                for (int r = 0; r < rooms(); r++) {
                    List<Integer> l = line(r);
                    if (!l.get(0).equals(l.get(l.size() - 1))) set += 1 << r;
                }
                return set;
            }
            case 9: return s.lifted.size();
            case 10: {
                int[] count = new int[10];
                for (int r = 0; r < rooms(); r++) for (int x : line(r)) count[x]++;
                int best = NONE;
                for (int x = 9; x >= 1; x--) if (count[x] > 0 && (best < 0 || count[x] >= count[best])) best = x;
                return best;
            }
            case 11: return seen.size();
            case 12: return book.size();
            case 13: return past.size();
            default: return OUTSIDE;
        }
    }

    int room(int r, int what) {
        if (!isRoom(r)) return UNKNOWN;
        if (what < 0 || what > 4) return OUTSIDE;
        if (what == 0) return size(r);
        if (what == 1) {
            int set = 0;
            for (int x : s.lifted) if (x / 100 == r) set += 1 << x % 100;
            return set;
        }
        if (what == 2) return key(r);
        if (what == 3) {
            int p = 1;
            while (!turned(r, p).equals(line(r))) p++;
            return p;
        }
        return h.unders.containsKey(r) ? 1 : 0;
    }

    int bar(int r, int b, int what) {
        if (!isBar(r, b)) return UNKNOWN;
        if (what < 0 || what > 2) return OUTSIDE;
        return what == 0 ? paper(r, b) : what == 1 ? under(r, b) : reads(r, b);
    }

    int person(int p, int what) {
        if (!isPerson(p)) return UNKNOWN;
        if (what < 0 || what > 3) return OUTSIDE;
        int[] x = s.people.get(p);
        return what < 3 ? x[what] : reads(x[0], x[1]);
    }

    int wall(int w, int what) {
        if (w < 0 || w >= h.walls.size()) return UNKNOWN;
        if (what < 0 || what > 3) return OUTSIDE;
        return h.walls.get(w)[what];
    }

    int logged(int i, int what) {
        if (what < 0 || what > 2) return OUTSIDE;
        if (i < 0 || i >= s.log.size()) return NONE;
        return s.log.get(s.log.size() - 1 - i)[what];
    }

    // ---- deeds

    /** The pairs that MEET in this HOUR: WALL, who, who. */
    List<int[]> pass(State st) {
        for (int[] p : st.people) {
            for (int i = 0; i < p[2]; i++) {
                p[1] = p[1] + 1 == size(p[0]) ? 0 : p[1] + 1;
                if (reads(st, p[0], p[1]) == 0) break;
            }
        }
        List<int[]> pairs = new ArrayList<>();
        for (int w = 0; w < h.walls.size(); w++) {
            int[] x = h.walls.get(w);
            for (int p = 0; p < st.people.size(); p++) {
                for (int q = 0; q < st.people.size(); q++) {
                    int[] a = st.people.get(p), b = st.people.get(q);
                    if (a[0] == x[0] && a[1] == x[1] && b[0] == x[2] && b[1] == x[3]) pairs.add(new int[] {w, p, q});
                }
            }
        }
        for (int[] pair : pairs) {
            st.met = Math.min(999999, st.met + 1);
            st.log.add(pair);
            if (st.log.size() > 20) st.log.remove(0);
        }
        st.hours++;
        if (h.d != 0 && st.hours % h.d == 0 && rooms() > 0) {
            int k = st.hours / h.d - 1, r = k % rooms();
            st.lifted.add(100 * r + k / rooms() % size(r));
        }
        return pairs;
    }

    void remember() {
        past.addLast(s.copy());
        if (past.size() > 30) past.removeFirst();
    }

    int mayPass(int n) {
        if (n < 1 || n > 30) return OUTSIDE;
        if (!h.is) return NOT;
        return s.hours > 90000 ? FULL : 0;
    }

    int hour(int n) {
        if (mayPass(n) != 0) return mayPass(n);
        for (int i = 0; i < n; i++) {
            remember();
            pass(s);
        }
        return s.met;
    }

    int lift(int r, int b) {
        if (!isBar(r, b)) return UNKNOWN;
        if (s.lifted.contains(100 * r + b)) return NOT;
        remember();
        s.lifted.add(100 * r + b);
        return under(r, b);
    }

    int paste(int r, int b) {
        if (!isBar(r, b)) return UNKNOWN;
        if (!s.lifted.contains(100 * r + b)) return NOT;
        remember();
        s.lifted.remove(100 * r + b);
        return paper(r, b);
    }

    int moveTo(int p, int r) {
        if (!isPerson(p) || !isRoom(r)) return UNKNOWN;
        int[] x = s.people.get(p);
        int b = line(r).indexOf(reads(x[0], x[1]));
        if (x[0] == r || b < 0) return NOT;
        remember();
        x[0] = r;
        x[1] = b;
        return b;
    }

    int pace(int p, int n) {
        if (!isPerson(p)) return UNKNOWN;
        if (n < 0 || n > 9) return OUTSIDE;
        remember();
        int was = s.people.get(p)[2];
        s.people.get(p)[2] = n;
        return was;
    }

    int draw(int n) {
        seed = Math.floorMod(seed * 1103515245L + 12345L, 2147483648L);
        return (int) (seed / 65536 % n);
    }

    int drift(int n) {
        if (mayPass(n) != 0) return mayPass(n);
        for (int i = 0; i < n; i++) {
            remember();
            int kind = rooms() > 0 ? draw(4) : 3;
            if (kind == 0) {
                int r = draw(rooms()), x = 100 * r + draw(size(r));
                if (!s.lifted.remove(x)) s.lifted.add(x);
            }
            if (kind == 1 && !s.people.isEmpty()) {
                int p = draw(s.people.size());
                s.people.get(p)[2] = draw(10);
            }
            pass(s);
        }
        return s.met;
    }

    int undo(int n) {
        if (n < 1 || n > 30) return OUTSIDE;
        if (n > past.size()) return NOT;
        for (int i = 0; i < n; i++) s = past.removeLast();
        return s.hours;
    }

    // ---- tried

    int where(int p, int n) {
        if (!isPerson(p)) return UNKNOWN;
        if (n < 0 || n > 99) return OUTSIDE;
        State t = s.copy();
        for (int i = 0; i < n; i++) pass(t);
        return t.people.get(p)[1];
    }

    int meets(int n) {
        if (n < 0 || n > 99) return OUTSIDE;
        State t = s.copy();
        int sum = 0;
        for (int i = 0; i < n; i++) sum += pass(t).size();
        return sum;
    }

    int together(int p, int q) {
        if (!isPerson(p) || !isPerson(q) || p == q) return UNKNOWN;
        State t = s.copy();
        for (int n = 1; n <= 200; n++) {
            for (int[] x : pass(t)) {
                if (x[1] == p && x[2] == q || x[1] == q && x[2] == p) return n;
            }
        }
        return NONE;
    }

    boolean isPair(int r, int q) { return isRoom(r) && isRoom(q) && r != q; }

    int canon(int r, int q, int k) {
        if (!isPair(r, q)) return UNKNOWN;
        if (k < 0 || k > 11) return OUTSIDE;
        int n = 0;
        for (int i = 0; i < size(r); i++) if (reads(r, i) == reads(q, (i + k) % size(q))) n++;
        return n;
    }

    int bestCanon(int r, int q, int what) {
        if (!isPair(r, q)) return UNKNOWN;
        if (what < 0 || what > 1) return OUTSIDE;
        int best = 0;
        for (int k = 1; k < size(q); k++) if (canon(r, q, k) > canon(r, q, best)) best = k;
        return what == 0 ? best : canon(r, q, best);
    }

    /** Tries every SET of BARS that could be turned. */
    int match(int r, int q, int k, int what) {
        if (!isPair(r, q)) return UNKNOWN;
        if (k < 0 || k > 11 || what < 0 || what > 1) return OUTSIDE;
        State was = s;
        int best = NONE;
        for (int set = 0; set < 1 << size(r); set++) {
            if (best >= 0 && Integer.bitCount(set) >= Integer.bitCount(best)) continue;
            s = was.copy();
            for (int b = 0; b < size(r); b++) {
                if ((set >> b & 1) == 1 && !s.lifted.remove(100 * r + b)) s.lifted.add(100 * r + b);
            }
            if (canon(r, q, k) == size(r)) best = set;
        }
        s = was;
        return best < 0 ? NONE : what == 0 ? Integer.bitCount(best) : best;
    }

    int join(int r, int q) {
        if (!isPair(r, q)) return UNKNOWN;
        List<Integer> a = line(r), b = line(q);
        int best = 0;
        for (int n = 1; n <= a.size() && n <= b.size(); n++) {
            if (a.subList(a.size() - n, a.size()).equals(b.subList(0, n))) best = n;
        }
        return best;
    }

    static List<String> orders(String begun, String left) {
        List<String> all = new ArrayList<>();
        if (left.isEmpty()) all.add(begun);
        for (int i = 0; i < left.length(); i++) {
            all.addAll(orders(begun + left.charAt(i), left.substring(0, i) + left.substring(i + 1)));
        }
        return all;
    }

    int shortest(int what) {
        if (what < 0 || what > 1) return OUTSIDE;
        if (rooms() == 0) return NONE;
        int fewest = Integer.MAX_VALUE, order = NONE;
        for (String figuresOf : orders("", "123456".substring(0, rooms()))) {
            char[] figures = figuresOf.toCharArray();
            int number = Integer.parseInt(figuresOf);
            int bars = 0;
            for (int i = 0; i < figures.length; i++) {
                bars += size(figures[i] - '1');
                if (i > 0) bars -= join(figures[i - 1] - '1', figures[i] - '1');
            }
            if (bars < fewest) { fewest = bars; order = number; }
        }
        return what == 0 ? fewest : order;
    }

    int away(int r, int q) {
        int n = 0;
        while ((key(r) + n) % 12 != key(q) && (key(q) + n) % 12 != key(r)) n++;
        return n;
    }

    int nearest(int r) {
        if (!isRoom(r)) return UNKNOWN;
        for (int n = 0; n <= 6; n++) for (int q = 0; q < rooms(); q++) if (q != r && away(r, q) == n) return q;
        return NONE;
    }

    int modulation(int r, int q) {
        if (!isRoom(r) || !isRoom(q)) return UNKNOWN;
        int n = rooms();
        int[][] d = new int[n][n];
        for (int i = 0; i < n; i++) for (int j = 0; j < n; j++) d[i][j] = i == j ? 0 : away(i, j) <= 2 ? 1 : 1000;
        for (int k = 0; k < n; k++) for (int i = 0; i < n; i++) for (int j = 0; j < n; j++) d[i][j] = Math.min(d[i][j], d[i][k] + d[k][j]);
        return d[r][q] >= 1000 ? NONE : d[r][q];
    }

    int sounds(int x) {
        if (x < 0 || x > 9) return OUTSIDE;
        int set = 0;
        for (int p = 0; p < s.people.size(); p++) if (person(p, 3) == x) set += 1 << p;
        return set;
    }

    int dry(int n, int q) {
        if (n < 0 || n > 60 || q < 0 || q > 100) return OUTSIDE;
        java.math.BigInteger x = java.math.BigInteger.valueOf(1000000000);
        for (int i = 0; i < n; i++) x = x.multiply(java.math.BigInteger.valueOf(q)).divide(java.math.BigInteger.valueOf(100));
        return x.intValueExact();
    }

    // ---- what was seen

    int see(int d, int x) {
        if (d < 0 || d > 11 || x < 0 || x > 9) return OUTSIDE;
        if (seen.size() == 6) return FULL;
        seen.add(new int[] {d, x});
        return seen.size();
    }

    List<int[]> fitting() {
        List<int[]> all = new ArrayList<>();
        for (int r = 0; r < rooms(); r++) {
            for (int b = 0; b < size(r); b++) {
                boolean fits = true;
                for (int[] x : seen) fits &= turned(r, b + x[0]).get(0) == x[1];
                if (fits) all.add(new int[] {r, b});
            }
        }
        return all;
    }

    int places(int what) {
        if (what < 0 || what > 2) return OUTSIDE;
        List<int[]> all = fitting();
        if (what == 0) return all.size();
        if (what == 1) return all.isEmpty() ? NONE : 100 * all.get(0)[0] + all.get(0)[1];
        int set = 0;
        for (int[] x : all) set |= 1 << x[0];
        return set;
    }

    int lookAt() {
        List<int[]> all = fitting();
        int best = NONE, least = Integer.MAX_VALUE;
        for (int d = 0; d < 12; d++) {
            Map<Integer, Integer> parts = new HashMap<>();
            for (int[] x : all) parts.merge(turned(x[0], x[1] + d).get(0), 1, Integer::sum);
            int greatest = 0;
            for (int n : parts.values()) greatest = Math.max(greatest, n);
            if (parts.size() > 1 && greatest < least) { least = greatest; best = d; }
        }
        return best;
    }

    int write(int r, int b, int x) {
        if (!isBar(r, b)) return UNKNOWN;
        if (x < 0 || x > 9) return OUTSIDE;
        if (book.size() == 20) return FULL;
        book.add(new int[] {r, b, x});
        return book.size();
    }

    int judge() {
        for (int i = 0; i < book.size(); i++) {
            int[] x = book.get(i);
            if (reads(x[0], x[1]) != x[2]) return i;
        }
        return NONE;
    }

    int tear() {
        int had = seen.size() + book.size();
        seen.clear();
        book.clear();
        return had;
    }

    // ---- images

    int seed(int v) {
        if (v < 0) return OUTSIDE;
        int was = (int) seed;
        seed = v;
        return was;
    }

    int keep(int i) {
        if (i < 0 || i > 1) return UNKNOWN;
        images[i] = s.copy();
        imageSeeds[i] = seed;
        past.clear();
        return 1;
    }

    int goBack(int i) {
        if (i < 0 || i > 1) return UNKNOWN;
        if (images[i] == null) return NOT;
        s = images[i].copy();
        seed = imageSeeds[i];
        past.clear();
        return 1;
    }
}
