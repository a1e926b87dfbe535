import java.util.ArrayList;
import java.util.Arrays;
import java.util.List;
import java.util.NoSuchElementException;

/**
 * The same promises kept without any care for room or time: MOVES are gone one by one, DEEDS are
 * undone from whole copies. RandomTest compares the program with it.
 */
public final class PlainNames {
    private static final int NONE = -1;

    /** All that an image keeps. */
    private static final class State {
        int lines, streets, houses = 9, day, moved;
        List<Integer> names = new ArrayList<>();
        List<List<Integer>> rounds = new ArrayList<>();
        List<Integer> bys = new ArrayList<>();
        boolean[] blind = new boolean[20];
        List<int[]> people = new ArrayList<>();
        Truth law = null;
        List<State> before = new ArrayList<>();

        State again() {
            State s = new State();
            s.lines = lines; s.streets = streets; s.houses = houses; s.day = day; s.moved = moved;
            s.names = new ArrayList<>(names);
            for (List<Integer> r : rounds) s.rounds.add(new ArrayList<>(r));
            s.bys = new ArrayList<>(bys);
            s.blind = blind.clone();
            for (int[] p : people) s.people.add(p.clone());
            s.law = law;
            s.before = new ArrayList<>(before);
            return s;
        }
    }

    private interface Truth { boolean of(State s); }
    private interface Sum { long of(State s); }

    private static final class Fault extends RuntimeException {
        private static final long serialVersionUID = 1;
        final int kind, place;
        Fault(int kind, int place) { this.kind = kind; this.place = place; }
    }

    /** One token: its text ("" at the end, null if none begins so) and its place. */
    private static final class Piece {
        final String text; final int place;
        Piece(String text, int place) { this.text = text; this.place = place; }
        boolean isNumber() { return text != null && text.matches("[0-9]+"); }
    }

    private static final class Text {
        final List<Piece> pieces = new ArrayList<>();
        int now = 0;

        Text(byte[] bytes) {
            int i = 0;
            while (i < bytes.length) {
                int c = bytes[i] & 255;
                int end = i + 1;
                if (c == 10 || c == 32) { i++; continue; }
                if (c >= 'a' && c <= 'z') {
                    while (end < bytes.length && bytes[end] >= 'a' && bytes[end] <= 'z') end++;
                } else if (c >= '0' && c <= '9') {
                    while (end < bytes.length && bytes[end] >= '0' && bytes[end] <= '9') end++;
                    if (end - i > 3) { pieces.add(new Piece(null, i)); return; }
                } else if (";:+-*()[]=<>".indexOf(c) < 0) {
                    pieces.add(new Piece(null, i));
                    return;
                }
                pieces.add(new Piece(new String(Arrays.copyOfRange(bytes, i, end)), i));
                i = end;
            }
            pieces.add(new Piece("", bytes.length));
        }

        Piece look() {
            Piece p = pieces.get(now);
            if (p.text == null) throw new Fault(1, p.place);
            return p;
        }
        boolean is(String text) { return look().text.equals(text); }
        Fault fault(int kind) { return new Fault(kind, look().place); }
        void need(String text) { if (!is(text)) throw fault(2); now++; }
        boolean eat(String text) { if (is(text)) { now++; return true; } return false; }
        int number(int least, int most) {
            if (!look().isNumber()) throw fault(2);
            int n = Integer.parseInt(look().text);
            if (n < least || n > most) throw fault(3);
            now++;
            return n;
        }
        void open(int depth) { if (depth >= 6) throw fault(4); now++; }

        State town() {
            State s = new State();
            need("streets");
            s.streets = number(1, 20);
            for (int i = 0; i < s.streets; i++) s.names.add(i);
            need(";");
            s.lines = 1;
            while (!is("")) { line(s); need(";"); s.lines++; }
            return s;
        }

        void line(State s) {
            String word = look().text;
            if (word.equals("round")) {
                if (s.rounds.size() == 4) throw fault(4);
                now++;
                int sign = eat("back") ? -1 : 1;
                int by = eat("by") ? number(1, 9) : 1;
                need(":");
                List<Integer> r = new ArrayList<>();
                do {
                    int old = now;
                    int v = number(0, s.streets - 1);
                    if (r.contains(v)) { now = old; throw fault(3); }
                    r.add(v);
                } while (look().isNumber());
                s.rounds.add(r);
                s.bys.add(sign * by);
            } else if (word.equals("blind")) {
                now++;
                s.blind[number(0, s.streets - 1)] = true;
            } else if (word.equals("person")) {
                if (s.people.size() == 8) throw fault(4);
                now++;
                int on = number(0, s.streets - 1);
                s.people.add(new int[] {on, number(1, s.houses)});
            } else if (word.equals("sign")) {
                now++;
                int on = number(0, s.streets - 1);
                s.names.set(on, number(0, s.streets - 1));
            } else if (word.equals("houses")) {
                if (!s.people.isEmpty()) throw fault(2);
                now++;
                s.houses = number(1, 99);
            } else if (word.equals("rest")) {
                now++;
                s.law = truth(0);
            } else {
                throw fault(2);
            }
        }

        Truth truth(int depth) {
            Truth a = both(depth);
            while (eat("or")) { Truth l = a, r = both(depth); a = s -> l.of(s) | r.of(s); }
            return a;
        }
        Truth both(int depth) {
            Truth a = unit(depth);
            while (eat("and")) { Truth l = a, r = unit(depth); a = s -> l.of(s) & r.of(s); }
            return a;
        }
        Truth unit(int depth) {
            if (is("not")) { open(depth); Truth u = unit(depth + 1); return s -> !u.of(s); }
            if (is("[")) { open(depth); Truth u = truth(depth + 1); need("]"); return u; }
            Sum l = sum(depth);
            if (eat("=")) { Sum r = sum(depth); return s -> l.of(s) == r.of(s); }
            if (eat("<")) { Sum r = sum(depth); return s -> l.of(s) < r.of(s); }
            need(">");
            Sum r = sum(depth);
            return s -> l.of(s) > r.of(s);
        }
        static long keep(long n) { return Math.max(-1000000, Math.min(1000000, n)); }
        Sum sum(int depth) {
            Sum a = term(depth);
            while (true) {
                if (eat("+")) { Sum l = a, r = term(depth); a = s -> keep(l.of(s) + r.of(s)); }
                else if (eat("-")) { Sum l = a, r = term(depth); a = s -> keep(l.of(s) - r.of(s)); }
                else return a;
            }
        }
        Sum term(int depth) {
            Sum a = atom(depth);
            while (eat("*")) { Sum l = a, r = atom(depth); a = s -> keep(l.of(s) * r.of(s)); }
            return a;
        }
        Sum atom(int depth) {
            if (is("(")) { open(depth); Sum u = sum(depth + 1); need(")"); return u; }
            if (look().isNumber()) { int n = number(0, 999); return s -> n; }
            if (eat("day")) return s -> s.day;
            if (eat("week")) return s -> s.day % 7;
            if (eat("moved")) return s -> s.moved % 1000;
            if (eat("people")) return s -> s.people.size();
            if (eat("wrong")) return s -> wrong(s);
            throw fault(2);
        }
    }

    private byte[] tape = new byte[0];
    private int fault = 0, place = NONE;
    private State now = new State();
    private final State[] images = new State[3];
    private final long[][] trays = new long[4][];
    private final int[] sorts = new int[4];

    static int wrong(State s) {
        int many = 0;
        for (int i = 0; i < s.streets; i++) {
            int name = s.names.get(i);
            if (s.names.stream().filter(x -> x == name).count() > 1) many++;
        }
        return many;
    }

    /** One MOVE: each round in order, its signs lifted off and hung again. */
    static void move(State s) {
        for (int r = 0; r < s.rounds.size(); r++) {
            List<Integer> open = new ArrayList<>();
            for (int x : s.rounds.get(r)) if (!s.blind[x]) open.add(x);
            List<Integer> lifted = new ArrayList<>();
            for (int x : open) lifted.add(s.names.get(x));
            for (int k = 0; k < open.size(); k++) {
                int to = k;
                for (int i = 0; i < Math.abs(s.bys.get(r)); i++) {
                    to += s.bys.get(r) > 0 ? 1 : -1;
                    if (to == open.size()) to = 0;
                    if (to < 0) to = open.size() - 1;
                }
                s.names.set(open.get(to), lifted.get(k));
            }
        }
    }

    static boolean night(State s) {
        boolean rests = s.law != null && s.law.of(s);
        if (!rests) { move(s); s.moved++; }
        s.day++;
        return !rests;
    }

    /** NAMES n MOVES ahead; ago is ahead, too, as after 420 or fewer MOVES all is as it was. */
    private List<Integer> ahead(int n) {
        State s = now.again();
        int period = (int) period();
        for (int i = 0; i < ((n % period) + period) % period; i++) move(s);
        return s.names;
    }

    /** The street to which the sign of each street comes. */
    private List<Integer> ways(int n) {
        State s = now.again();
        for (int i = 0; i < s.streets; i++) s.names.set(i, i);
        int period = (int) period();
        for (int i = 0; i < ((n % period) + period) % period; i++) move(s);
        List<Integer> to = new ArrayList<>();
        for (int i = 0; i < s.streets; i++) to.add(s.names.indexOf(i));
        return to;
    }

    private void deed() {
        State old = now.again();
        now.before.add(old);
        if (now.before.size() > 10) now.before.remove(0);
    }

    private void st(int s) { if (s < 0 || s >= now.streets) throw new NoSuchElementException(); }
    private void ro(int r) { if (r < 0 || r >= now.rounds.size()) throw new NoSuchElementException(); }
    private void pe(int p) { if (p < 0 || p >= now.people.size()) throw new NoSuchElementException(); }
    private void in(long n, long a, long b) { if (n < a || n > b) throw new IllegalArgumentException(); }
    private long[] tr(int t) {
        if (t < 0 || t > 3) throw new NoSuchElementException();
        if (trays[t] == null) throw new IllegalStateException();
        return trays[t];
    }

    public int feed(int a, int b, int c, int d, int e) {
        if (tape.length + 20 > 900) return NONE;
        int[] all = {a, b, c, d, e};
        int old = tape.length;
        tape = Arrays.copyOf(tape, old + 20);
        for (int i = 0; i < 20; i++) tape[old + i] = (byte) (all[i / 4] >> (3 - i % 4) * 8);
        return tape.length;
    }

    public int town(int n) {
        in(n, 0, tape.length);
        Text text = new Text(Arrays.copyOf(tape, n));
        tape = new byte[0];
        fault = 0;
        place = NONE;
        try {
            now = text.town();
            return now.lines;
        } catch (Fault f) {
            fault = f.kind;
            place = f.place;
            return -10 - fault;
        }
    }

    public int fault(int what) { return what == 0 ? fault : what == 1 ? place : NONE; }

    public int street(int s, int what) {
        st(s);
        in(what, 0, 4);
        int bits = 0;
        if (what == 0) return now.names.get(s);
        if (what == 1) return now.blind[s] ? 1 : 0;
        if (what == 2) {
            for (int r = 0; r < now.rounds.size(); r++) if (now.rounds.get(r).contains(s)) bits += 1 << r;
            return bits;
        }
        if (what == 3) {
            int n = 1;
            while (ways(n).get(s) != s) n++;
            return n;
        }
        for (int p = 0; p < now.people.size(); p++) if (now.people.get(p)[0] == s) bits += 1 << p;
        return bits;
    }

    public int round(int r, int what) {
        ro(r);
        if (what == 0) return now.rounds.get(r).size();
        if (what == 1) return Math.abs(now.bys.get(r));
        if (what == 2) return now.bys.get(r) < 0 ? 1 : 0;
        in(what, 10, 29);
        return what - 10 < now.rounds.get(r).size() ? now.rounds.get(r).get(what - 10) : NONE;
    }

    public int person(int p, int what) {
        pe(p);
        in(what, 0, 2);
        int[] who = now.people.get(p);
        return what < 2 ? who[what] : now.names.get(who[0]);
    }

    public int where(int name) {
        st(name);
        return bitsOf(now.names, name);
    }

    private static int bitsOf(List<Integer> names, int name) {
        int bits = 0;
        for (int s = 0; s < names.size(); s++) if (names.get(s) == name) bits += 1 << s;
        return bits;
    }

    public int finds(int name, int house) { return findsIn(name, house, 0); }

    public int findsIn(int name, int house, int n) {
        st(name);
        in(house, 1, now.houses);
        in(n, -9999, 9999);
        int bits = 0;
        for (int p = 0; p < now.people.size(); p++) {
            int[] who = now.people.get(p);
            if (who[1] == house && ahead(n).get(who[0]) == name) bits += 1 << p;
        }
        return bits;
    }

    public int nameIn(int s, int n) { st(s); in(n, -9999, 9999); return ahead(n).get(s); }
    public int goesTo(int s, int n) { st(s); in(n, -9999, 9999); return ways(n).get(s); }

    public int nights(int n) {
        in(n, 1, 99);
        deed();
        int m = 0;
        for (int i = 0; i < n; i++) if (night(now)) m++;
        return m;
    }

    public boolean rests() { return now.law != null && now.law.of(now); }

    public int movesIn(int n) {
        in(n, 0, 999);
        State s = now.again();
        int m = 0;
        for (int i = 0; i < n; i++) if (night(s)) m++;
        return m;
    }

    public int nightsFor(int n) {
        in(n, 0, 999);
        for (int k = 0; k <= 999; k++) if (movesIn(k) == n) return k;
        return NONE;
    }

    public int hang(int s, int name) { st(s); st(name); deed(); return now.names.set(s, name); }

    public int change(int s, int t) {
        st(s);
        st(t);
        if (s == t) throw new IllegalArgumentException();
        deed();
        swap(now, s, t);
        return wrong(now);
    }

    private static void swap(State w, int s, int t) { w.names.set(s, w.names.set(t, w.names.get(s))); }

    public int letIn(int s, int r, int at) {
        st(s);
        ro(r);
        if (now.rounds.get(r).contains(s)) throw new IllegalStateException();
        in(at, 0, now.rounds.get(r).size());
        deed();
        now.rounds.get(r).add(at, s);
        return now.rounds.get(r).size();
    }

    public int takeOut(int s, int r) {
        st(s);
        ro(r);
        if (!now.rounds.get(r).contains(s)) throw new IllegalStateException();
        deed();
        now.rounds.get(r).remove((Integer) s);
        return now.rounds.get(r).size();
    }

    public int blind(int s) { st(s); deed(); now.blind[s] = !now.blind[s]; return now.blind[s] ? 1 : 0; }

    public int moves(int p, int s, int house) {
        pe(p);
        st(s);
        in(house, 1, now.houses);
        deed();
        now.people.set(p, new int[] {s, house});
        return now.names.get(s);
    }

    public int undo(int n) {
        in(n, 1, Math.min(10, now.before.size()));
        List<State> log = new ArrayList<>(now.before);
        State to = null;
        for (int i = 0; i < n; i++) to = log.remove(log.size() - 1);
        now = to.again();
        now.before = log;
        return log.size();
    }

    private int why(long v) {
        if (v == NONE) return 0;
        if (v < 0 || v > 799) return 1;
        long s = v < 400 ? v % 20 : (v - 400) % 20;
        long t = v < 400 ? v / 20 : (v - 400) / 20;
        if (s >= now.streets || t >= now.streets) return 1;
        return v >= 400 && s == t ? 2 : 0;
    }

    /** Does them: {the place that can't be, why, how many moved}. */
    private int[] tell(long[] told) {
        int moved = 0;
        for (int i = 0; i < told.length; i++) {
            int v = (int) told[i];
            if (why(told[i]) != 0) return new int[] {i, why(told[i]), moved};
            if (v == NONE) moved += nights(1);
            else if (v < 400) hang(v % 20, v / 20);
            else change((v - 400) % 20, (v - 400) / 20);
        }
        return new int[] {NONE, 0, moved};
    }

    public int judge(int tray, int what) {
        long[] told = tr(tray);
        in(what, 0, 3);
        State kept = now;
        now = kept.again();
        int[] said = tell(told);
        int wrong = wrong(now);
        now = kept;
        return what == 3 ? wrong : said[what];
    }

    public int perform(int tray) {
        long[] told = tr(tray);
        int first = tell(told)[0];
        return first == NONE ? told.length : first;
    }

    public int month(int seed, int times) {
        in(times, 1, 30);
        if (now.streets == 0) throw new IllegalStateException();
        int[] x = {seed};
        int done = 0;
        for (int i = 0; i < times; i++) {
            int kind = draw(x) % 4;
            if (kind <= 1) { nights(1); done++; continue; }
            int a = draw(x) % now.streets;
            int b = draw(x) % now.streets;
            if (kind == 2) { hang(a, b); done++; }
            else if (a != b) { change(a, b); done++; }
        }
        return done;
    }

    private static int draw(int[] x) { x[0] = 1103515245 * x[0] + 12345; return x[0] >>> 16; }

    public long period() {
        State s = now.again();
        for (int i = 0; i < s.streets; i++) s.names.set(i, i);
        List<Integer> first = new ArrayList<>(s.names);
        long n = 0;
        do { move(s); n++; } while (!s.names.equals(first));
        return n;
    }

    public long asNow() {
        State s = now.again();
        long n = 0;
        do { move(s); n++; } while (!s.names.equals(now.names));
        return n;
    }

    private void signs(long[] told, int most) {
        in(told.length, 1, most);
        for (long v : told) {
            in(v, 0, 399);
            in(v % 20, 0, now.streets - 1);
            in(v / 20, 0, now.streets - 1);
        }
    }

    public long when(int tray) {
        long[] told = tr(tray);
        signs(told, 10);
        State s = now.again();
        for (int n = 0; n < 500; n++) {
            boolean all = true;
            for (long v : told) all &= s.names.get((int) v % 20) == v / 20;
            if (all) return n;
            move(s);
        }
        return NONE;
    }

    public long follows(int s, int t) {
        st(s);
        st(t);
        if (s == t) throw new IllegalArgumentException();
        for (int n = 0; n < 25; n++) if (ways(n).get(s).equals(ways(n + 1).get(t))) return n;
        return NONE;
    }

    public int again(int s) {
        st(s);
        for (int n = 1; ; n++) if (ahead(n).get(s).equals(now.names.get(s))) return n;
    }

    public int beside(int s, int t) {
        st(s);
        st(t);
        if (s == t) throw new IllegalArgumentException();
        State x = now.again();
        for (int i = 0; i < x.streets; i++) x.names.set(i, i);
        int many = 0;
        for (long n = 0; n < period(); n++) {
            if (Math.abs(x.names.indexOf(s) - x.names.indexOf(t)) == 1) many++;
            move(x);
        }
        return many;
    }

    public int visits(int name, int n) {
        st(name);
        in(n, 0, 999);
        State s = now.again();
        int bits = 0;
        for (int i = 0; i <= n; i++) { bits |= bitsOf(s.names, name); move(s); }
        return bits;
    }

    public int under(int p, int n) {
        pe(p);
        in(n, 0, 999);
        State s = now.again();
        int bits = 0;
        for (int i = 0; i <= n; i++) { bits |= 1 << s.names.get(s.people.get(p)[0]); move(s); }
        return bits;
    }

    public int home(int tray, int what) {
        long[] told = tr(tray);
        signs(told, 8);
        if (what != 0) in(what, 10, 9 + told.length);
        boolean[][] can = new boolean[told.length][60];
        State s = now.again();
        for (int n = 0; n < 60; n++) {
            for (int k = 0; k < told.length; k++) can[k][n] = s.names.get((int) told[k] % 20) == told[k] / 20;
            move(s);
        }
        for (int last = 0; last < 60; last++) {
            int[] days = new int[told.length];
            Arrays.fill(days, NONE);
            if (!match(can, days, last)) continue;
            for (int k = 0; k < told.length; k++) {
                for (days[k] = 0; !match(can, days, last); days[k]++) { }
            }
            return what == 0 ? last : days[what - 10];
        }
        return NONE;
    }

    /** Whether all letters can be brought by the last night, those with a night on that one. */
    private static boolean match(boolean[][] can, int[] days, int last) {
        int[] by = new int[last + 1];
        Arrays.fill(by, NONE);
        for (int k = 0; k < days.length; k++) if (!place(can, days, by, k, new boolean[last + 1])) return false;
        return true;
    }

    private static boolean place(boolean[][] can, int[] days, int[] by, int k, boolean[] seen) {
        for (int n = 0; n < by.length; n++) {
            if (!can[k][n] || seen[n] || days[k] != NONE && days[k] != n) continue;
            seen[n] = true;
            if (by[n] == NONE || place(can, days, by, by[n], seen)) { by[n] = k; return true; }
        }
        return false;
    }

    public int written(int name, int s, int t) {
        st(name);
        st(s);
        in(t, 0, 99);
        int many = 0;
        for (int ago = t; ago <= 99; ago++) if (ahead(-ago).get(s) == name) many++;
        return many;
    }

    public int served(int p, int name, int what) {
        pe(p);
        st(name);
        in(what, 0, 1);
        State s = now.again();
        int many = 0, first = NONE;
        for (int n = 0; n <= 99; n++) {
            if (s.names.get(s.people.get(p)[0]) == name) { many++; if (first == NONE) first = n; }
            move(s);
        }
        return what == 0 ? many : first;
    }

    public int right(int n) {
        in(n, -9999, 9999);
        int many = 0;
        for (int s = 0; s < now.streets; s++) if (ahead(n).get(s).equals(now.names.get(s))) many++;
        return many;
    }

    public int rightDays(int k, int n) {
        in(n, 0, 999);
        if (k < 0) throw new IllegalArgumentException();
        State x = now.again();
        int many = 0;
        for (int i = 1; i <= n; i++) {
            move(x);
            int same = 0;
            for (int s = 0; s < now.streets; s++) if (x.names.get(s).equals(now.names.get(s))) same++;
            if (same >= k) many++;
        }
        return many;
    }

    private int harmOf(List<Integer> then) {
        int harm = 0;
        for (int name = 0; name < now.streets; name++) {
            int a = now.names.indexOf(name), b = then.indexOf(name);
            boolean alone = a >= 0 && a == now.names.lastIndexOf(name) && b == then.lastIndexOf(name);
            if (alone) harm += Math.abs(a - b);
        }
        return harm;
    }

    public int harm(int n) { in(n, -9999, 9999); return harmOf(ahead(n)); }

    public int leastHarm(int n) {
        in(n, 1, 999);
        State x = now.again();
        int best = 0, least = 100000;
        for (int i = 1; i <= n; i++) {
            move(x);
            if (harmOf(x.names) < least) { least = harmOf(x.names); best = i; }
        }
        return best;
    }

    public int errors(int tray, int what) {
        long[] seen = tr(tray);
        in(seen.length, now.streets, now.streets);
        for (long v : seen) in(v, NONE, now.streets - 1);
        in(what, 0, 2);
        State x = now.again();
        int best = 0, least = 100, bits = 0;
        for (int n = 0; n < period(); n++) {
            int unlike = 0;
            for (int s = 0; s < now.streets; s++) if (seen[s] != NONE && seen[s] != x.names.get(s)) unlike += 1 << s;
            if (Integer.bitCount(unlike) < least) { least = Integer.bitCount(unlike); best = n; bits = unlike; }
            move(x);
        }
        return what == 0 ? least : what == 1 ? best : bits;
    }

    private long[] wish(int tray) {
        long[] wanted = tr(tray);
        in(wanted.length, now.streets, now.streets);
        for (long v : wanted) in(v, 0, now.streets - 1);
        return wanted;
    }

    public int ink(int tray) {
        long[] wanted = wish(tray);
        int many = 0;
        for (int s = 0; s < now.streets; s++) if (wanted[s] != now.names.get(s)) many++;
        return many;
    }

    public int changes(int tray) {
        long[] wanted = wish(tray);
        if (wrong(now) > 0) return -2;
        State x = now.again();
        int many = 0;
        for (int s = 0; s < x.streets; s++) {
            int t = x.names.indexOf((int) wanted[s]);
            if (t < s) return NONE;
            if (t > s) { swap(x, s, t); many++; }
        }
        return many;
    }

    public int twice() {
        int bits = 0;
        for (int n = 0; n < now.streets; n++) if (Integer.bitCount(bitsOf(now.names, n)) > 1) bits += 1 << n;
        return bits;
    }

    public int lost() {
        int bits = 0;
        for (int n = 0; n < now.streets; n++) if (bitsOf(now.names, n) == 0) bits += 1 << n;
        return bits;
    }

    public void tray(int tray, int sort, int many) {
        if (tray < 0 || tray > 3) throw new NoSuchElementException();
        in(sort, 0, 3);
        in(many, 0, 30);
        trays[tray] = new long[many];
        sorts[tray] = sort;
    }

    public long write(int tray, int at, long v) {
        long[] row = tr(tray);
        if (at < 0 || at >= row.length) throw new IndexOutOfBoundsException();
        int bits = 8 << sorts[tray];
        return row[at] = v << (64 - bits) >> (64 - bits);
    }

    public int copy(int tray) {
        long[] row = tr(tray);
        int many = 0;
        for (int s = 0; s < row.length && s < now.streets; s++) { row[s] = now.names.get(s); many++; }
        return many;
    }

    public void image(int i) {
        if (i < 0 || i > 2) throw new NoSuchElementException();
        images[i] = now.again();
    }

    public void restore(int i) {
        if (i < 0 || i > 2) throw new NoSuchElementException();
        if (images[i] == null) throw new IllegalStateException();
        now = images[i].again();
    }

    public int count(int what) {
        int blind = 0;
        for (boolean b : now.blind) if (b) blind++;
        int[] all = {now.lines, now.streets, now.rounds.size(), now.people.size(), now.houses, now.day, now.moved,
            blind, wrong(now), now.before.size(), tape.length};
        return what >= 0 && what < all.length ? all[what] : NONE;
    }
}
