import java.math.BigInteger;
import java.util.ArrayList;
import java.util.HashMap;
import java.util.List;
import java.util.Map;
import java.util.function.Consumer;
import java.util.function.ToIntFunction;
import java.util.regex.Matcher;
import java.util.regex.Pattern;

/**
 * The document told a second time, in another way and with no care for time or room, for OracleTest to
 * hold against the class: whole days are run for every question, luck is every course of days.
 */
final class Oracle {
    static final int BAD = -1, STATE = -2, FULL = -3, NONE = -4;

    static final class Book {
        int bay, height;
        Integer leads;
        Book copy() {
            Book c = new Book();
            c.bay = bay;
            c.height = height;
            c.leads = leads;
            return c;
        }
    }

    static final class Person {
        int kind, bears;
        Integer wants;
        List<Integer> had = new ArrayList<>();
        Person copy() {
            Person c = new Person();
            c.kind = kind;
            c.bears = bears;
            c.wants = wants;
            c.had = new ArrayList<>(had);
            return c;
        }
        int climb(int h) {
            if (kind == 0) return h;
            if (kind == 1) return h * 2;
            if (kind == 2) return (int) Math.ceil(h / 2.0);
            return 1 + (int) Math.floor(h * 2 / 2.0);
        }
        int dizzy(int h) {
            int nephew = h > 5 ? h + (h - 5) : h;
            if (kind == 0) return h;
            if (kind == 1) return nephew;
            if (kind == 2) return h + h;
            return (int) Math.floor(nephew / 3.0);
        }
        int hadBits() {
            int bits = 0;
            for (int b : had) bits += 1 << b;
            return bits;
        }
    }

    static final class World {
        List<Book> books = new ArrayList<>();
        List<Person> people = new ArrayList<>();
        int steps, clock, day;
        int fetched, vertigos, minutes;
        Integer[] vertigoBy = new Integer[4];
        List<int[]> seen = new ArrayList<>();

        World copy() {
            World c = new World();
            for (Book b : books) c.books.add(b.copy());
            for (Person p : people) c.people.add(p.copy());
            c.steps = steps;
            c.clock = clock;
            c.day = day;
            c.seen = new ArrayList<>(seen);
            return c;
        }
        int time(int r, int b) {
            Book k = books.get(b);
            return Math.max(k.bay, steps) - Math.min(k.bay, steps) + 2 * people.get(r).climb(k.height);
        }
        int fetch(int r, int b) {
            int t = time(r, b);
            clock += t;
            minutes += t;
            steps = books.get(b).bay;
            people.get(r).had.add(b);
            fetched++;
            return t;
        }
        void readerDay(int r) {
            Person p = people.get(r);
            int dizzy = 0;
            vertigoBy[r] = null;
            while (p.wants != null) {
                int b = p.wants;
                if (p.had.contains(b)) {
                    p.wants = null;
                    continue;
                }
                int by = p.dizzy(books.get(b).height);
                if (dizzy + by > p.bears) {
                    vertigos++;
                    vertigoBy[r] = b;
                    return;
                }
                fetch(r, b);
                dizzy += by;
                p.wants = books.get(b).leads;
            }
        }
        World day() {
            for (int r = 0; r < people.size(); r++) readerDay(r);
            day++;
            return this;
        }
        World days(int n) {
            for (int i = 0; i < n; i++) day();
            return this;
        }
        boolean done(int r) {
            return people.get(r).wants == null;
        }
        boolean allDone() {
            for (int r = 0; r < people.size(); r++) if (!done(r)) return false;
            return true;
        }
    }

    World now = new World();
    String tape = "";
    int fault, torn;
    World[] images = new World[2];
    int[] lanes = {-1, -1, -1, -1};
    int[][] cells = new int[4][];

    static int say(Integer v) {
        return v == null ? NONE : v;
    }

    boolean isBook(int b) {
        return b >= 0 && b < now.books.size();
    }

    boolean isReader(int r) {
        return r >= 0 && r < now.people.size();
    }

    static boolean in(int v, int a, int b) {
        return v >= a && v <= b;
    }

    World with(Consumer<World> change) {
        World w = now.copy();
        change.accept(w);
        return w;
    }

    // ---- the text

    int feed(int c) {
        if (!in(c, 0, 127)) return BAD;
        if (tape.length() == 160) return FULL;
        tape += (char) c;
        return tape.length();
    }

    int end(int n) {
        if (!in(n, 0, tape.length())) return BAD;
        int was = tape.length();
        tape = tape.substring(0, n);
        return was;
    }

    private static final Pattern TOKEN = Pattern.compile(" *([a-z]+|[0-9]+|;)");
    private static final Map<String, String> LINES = new HashMap<>();
    static {
        LINES.put("book", "yhb");
        LINES.put("guest", "br");
        LINES.put("nephew", "br");
        LINES.put("lord", "br");
        LINES.put("maid", "br");
        LINES.put("steps", "y");
    }

    /** Tells faults as {fault, place}. */
    private static final class Told {
        final String s;
        int at;
        int start;
        World w = new World();
        int lines;
        int[] fault;
        boolean steps;
        Told(String s) {
            this.s = s;
        }
        /** null behind a fault, "" at the end. */
        String token() {
            Matcher m = TOKEN.matcher(s).region(at, s.length());
            if (m.lookingAt()) {
                start = m.start(1);
                at = m.end();
                if (Character.isDigit(s.charAt(start)) && m.group(1).length() > 2) return bad(1, start);
                return m.group(1);
            }
            int p = at;
            while (p < s.length() && s.charAt(p) == ' ') p++;
            start = p;
            at = p;
            return p == s.length() ? "" : bad(1, p);
        }
        String bad(int f, int place) {
            fault = new int[] {f, place};
            return null;
        }
        void all() {
            while (fault == null) {
                String t = token();
                if (t == null || t.isEmpty()) break;
                line(t);
                lines++;
            }
            if (fault != null) return;
            for (Book b : w.books) if (b.leads != null && b.leads >= w.books.size()) bad(6, s.length());
            for (Person p : w.people) if (p.wants != null && p.wants >= w.books.size()) bad(6, s.length());
        }
        void line(String name) {
            String form = LINES.get(name);
            if (form == null) {
                bad(2, start);
                return;
            }
            if (name.equals("steps") && steps) {
                bad(4, start);
                return;
            }
            boolean person = form.equals("br");
            if (name.equals("book") && w.books.size() == 8 || person && w.people.size() == 4) {
                bad(5, start);
                return;
            }
            int[] n = new int[form.length()];
            for (int i = 0; i < n.length; i++) {
                String t = token();
                if (t == null) return;
                if (t.isEmpty() || !Character.isDigit(t.charAt(0))) {
                    bad(2, start);
                    return;
                }
                n[i] = Integer.parseInt(t);
                boolean fits = switch (form.charAt(i)) {
                    case 'y' -> n[i] <= 7;
                    case 'h' -> n[i] <= 9;
                    case 'b' -> n[i] <= 7 || n[i] == 9;
                    default -> n[i] >= 1;
                };
                if (!fits) {
                    bad(3, start);
                    return;
                }
            }
            String t = token();
            if (t == null) return;
            if (!t.equals(";")) {
                bad(2, start);
                return;
            }
            if (name.equals("steps")) {
                steps = true;
                w.steps = n[0];
            } else if (name.equals("book")) {
                Book b = new Book();
                b.bay = n[0];
                b.height = n[1];
                b.leads = n[2] == 9 ? null : Integer.valueOf(n[2]);
                w.books.add(b);
            } else {
                Person p = new Person();
                p.kind = List.of("guest", "nephew", "lord", "maid").indexOf(name);
                p.wants = n[0] == 9 ? null : Integer.valueOf(n[0]);
                p.bears = n[1];
                w.people.add(p);
            }
        }
    }

    int text() {
        Told told = new Told(tape);
        told.all();
        tape = "";
        if (told.fault != null) {
            fault = told.fault[0];
            return -10 - told.fault[1];
        }
        fault = 0;
        now = told.w;
        images = new World[2];
        return told.lines;
    }

    int fault() {
        return fault;
    }

    int rule(int what) {
        int done = 0;
        for (int r = 0; r < now.people.size(); r++) if (now.done(r)) done |= 1 << r;
        int[] all = {now.books.size(), now.people.size(), now.steps, now.clock, now.day, done};
        return in(what, 0, 5) ? all[what] : BAD;
    }

    int book(int b, int what) {
        if (!isBook(b) || !in(what, 0, 3)) return BAD;
        Book k = now.books.get(b);
        int who = 0;
        for (int r = 0; r < now.people.size(); r++) if (now.people.get(r).had.contains(b)) who |= 1 << r;
        return new int[] {k.bay, k.height, say(k.leads), who}[what];
    }

    int reader(int r, int what) {
        if (!isReader(r) || !in(what, 0, 5)) return BAD;
        Person p = now.people.get(r);
        int time = p.wants == null ? NONE : now.time(r, p.wants);
        int dizzy = p.wants == null ? NONE : p.dizzy(now.books.get(p.wants).height);
        return new int[] {p.kind, say(p.wants), p.bears, p.hadBits(), time, dizzy}[what];
    }

    // ---- what is changed

    int shelve(int b, int what, int v) {
        if (!isBook(b) || !in(what, 0, 2)) return BAD;
        Book k = now.books.get(b);
        if (what == 0 && !in(v, 0, 7) || what == 1 && !in(v, 0, 9) || what == 2 && v != 9 && !isBook(v)) return BAD;
        int was = book(b, what);
        if (what == 0) k.bay = v;
        if (what == 1) k.height = v;
        if (what == 2) k.leads = v == 9 ? null : Integer.valueOf(v);
        return was;
    }

    int alter(int r, int what, int v) {
        if (!isReader(r) || !in(what, 0, 2)) return BAD;
        Person p = now.people.get(r);
        if (what == 0 && !in(v, 0, 3) || what == 1 && v != 9 && !isBook(v) || what == 2 && !in(v, 1, 99)) return BAD;
        int was = reader(r, what);
        if (what == 0) p.kind = v;
        if (what == 1) p.wants = v == 9 ? null : Integer.valueOf(v);
        if (what == 2) p.bears = v;
        return was;
    }

    int roll(int v) {
        if (!in(v, 0, 7)) return BAD;
        int was = now.steps;
        now.steps = v;
        return was;
    }

    int forgets(int r) {
        if (!isReader(r)) return BAD;
        int n = now.people.get(r).had.size();
        now.people.get(r).had.clear();
        return n;
    }

    int fetch(int r, int b) {
        if (!isReader(r) || !isBook(b)) return BAD;
        if (now.people.get(r).had.contains(b)) return STATE;
        if (now.clock + now.time(r, b) > 9999) return FULL;
        return now.fetch(r, b);
    }

    // ---- days

    int days(int n) {
        if (!in(n, 0, 30)) return BAD;
        World w = now.copy().days(n);
        if (w.day >= 1000 || w.clock > 9999) return FULL;
        now = w.copy();
        return w.fetched;
    }

    int runs(int n, int what) {
        if (!in(n, 0, 60) || !in(what, 0, 3)) return BAD;
        World w = now.copy().days(n);
        int first = NONE;
        for (int i = n; i >= 0; i--) if (now.copy().days(i).allDone()) first = i;
        return new int[] {w.fetched, w.minutes, w.vertigos, first}[what];
    }

    int ahead(int r, int n, int what) {
        if (!isReader(r) || !in(n, 0, 60) || !in(what, 0, 1)) return BAD;
        Person p = now.copy().days(n).people.get(r);
        return what == 0 ? say(p.wants) : p.hadBits();
    }

    static int doneIn(World w, int r, int most) {
        for (int n = 0; n <= most; n++) {
            if (w.done(r)) return n;
            w.day();
        }
        return NONE;
    }

    int done(int r) {
        return isReader(r) ? doneIn(now.copy(), r, 60) : BAD;
    }

    int vertigo(int r) {
        return isReader(r) ? say(now.copy().day().vertigoBy[r]) : BAD;
    }

    // ---- what is best

    private void rows(List<Integer> row, List<List<Integer>> into) {
        if (row.size() == now.people.size()) into.add(new ArrayList<>(row));
        for (int r = 0; r < now.people.size(); r++) {
            if (!row.contains(r)) {
                row.add(r);
                rows(row, into);
                row.remove(row.size() - 1);
            }
        }
    }

    int order(int what) {
        if (what != 0 && !in(what, 10, 9 + now.people.size())) return BAD;
        List<List<Integer>> all = new ArrayList<>();
        rows(new ArrayList<>(), all);
        List<Integer> best = null;
        int least = 0;
        for (List<Integer> row : all) {
            World w = now.copy();
            for (int r : row) w.readerDay(r);
            if (best == null || w.minutes < least) {
                best = row;
                least = w.minutes;
            }
        }
        return what == 0 ? least : best.get(what - 10);
    }

    int start(int n, int what) {
        if (!in(n, 0, 60) || !in(what, 0, 1)) return BAD;
        int best = -1;
        int least = 0;
        for (int i = 7; i >= 0; i--) {
            int bay = i;
            int m = with(w -> w.steps = bay).days(n).minutes;
            if (best < 0 || m <= least) {
                best = i;
                least = m;
            }
        }
        return what == 0 ? best : least;
    }

    int swap(int n, int what) {
        if (!in(n, 0, 60) || !in(what, 0, 1)) return BAD;
        int most = now.copy().days(n).fetched;
        int best = NONE;
        for (int i = 0; i < 100; i++) {
            int a = i / 10;
            int b = i % 10;
            if (a >= b || !isBook(a) || !isBook(b)) continue;
            World w = now.copy();
            Book was = w.books.get(a).copy();
            w.books.get(a).bay = w.books.get(b).bay;
            w.books.get(a).height = w.books.get(b).height;
            w.books.get(b).bay = was.bay;
            w.books.get(b).height = was.height;
            w.days(n);
            if (w.fetched > most) {
                most = w.fetched;
                best = i;
            }
        }
        return best == NONE ? NONE : what == 0 ? best : most;
    }

    int knee(int r, int what) {
        if (!isReader(r) || !in(what, 0, 1)) return BAD;
        int best = NONE;
        int soonest = NONE;
        for (int i = now.books.size() - 1; i >= 0; i--) {
            int b = i;
            int d = doneIn(with(w -> w.books.get(b).height = 0), r, 60);
            if (d != NONE && (soonest == NONE || d <= soonest)) {
                best = b;
                soonest = d;
            }
        }
        return what == 0 ? best : soonest;
    }

    int need(int r, int n) {
        if (!isReader(r) || !in(n, 0, 60)) return BAD;
        for (int i = 1; i <= 99; i++) {
            int v = i;
            if (with(w -> w.people.get(r).bears = v).days(n).done(r)) return i;
        }
        return NONE;
    }

    int high(int b, int r, int n) {
        if (!isBook(b) || !isReader(r) || !in(n, 0, 60)) return BAD;
        int best = NONE;
        for (int i = 0; i <= 9; i++) {
            int h = i;
            if (with(w -> w.books.get(b).height = h).days(n).people.get(r).had.contains(b)) best = i;
        }
        return best;
    }

    // ---- days on which the steps run

    /** Every course of days, with its weight. */
    private void courses(World w, int v, int n, BigInteger weight, Map<Integer, BigInteger> into) {
        if (n == 0) {
            into.merge(w.clock - now.clock, weight, BigInteger::add);
            return;
        }
        World run = w.copy();
        run.steps = 7;
        courses(run.day(), v, n - 1, weight.multiply(BigInteger.valueOf(v)), into);
        courses(w.copy().day(), v, n - 1, weight.multiply(BigInteger.valueOf(10 - v)), into);
    }

    private static long part(BigInteger a, BigInteger b, int what) {
        BigInteger g = a.gcd(b);
        return (what == 0 ? a : b).divide(g).longValueExact();
    }

    long luck(int v, int n, int most, int what) {
        if (!in(v, 0, 10) || !in(n, 0, 8) || !in(most, 0, 9999) || !in(what, 0, 1)) return BAD;
        Map<Integer, BigInteger> all = new HashMap<>();
        courses(now, v, n, BigInteger.ONE, all);
        BigInteger sum = BigInteger.ZERO;
        for (int m : all.keySet()) if (m <= most) sum = sum.add(all.get(m));
        return part(sum, BigInteger.TEN.pow(n), what);
    }

    long mean(int v, int n, int what) {
        if (!in(v, 0, 10) || !in(n, 0, 8) || !in(what, 0, 1)) return BAD;
        Map<Integer, BigInteger> all = new HashMap<>();
        courses(now, v, n, BigInteger.ONE, all);
        BigInteger sum = BigInteger.ZERO;
        for (int m : all.keySet()) sum = sum.add(all.get(m).multiply(BigInteger.valueOf(m)));
        return part(sum, BigInteger.TEN.pow(n), what);
    }

    // ---- who wanted what when

    int see(int n, int r, int w) {
        if (!in(n, 0, 20) || !isReader(r) || w != 9 && !in(w, 0, 7)) return BAD;
        if (now.seen.size() == 6) return FULL;
        now.seen.add(new int[] {n, r, w == 9 ? NONE : w});
        return now.seen.size();
    }

    int forget(int n) {
        int was = now.seen.size();
        if (!in(n, 0, was)) return BAD;
        now.seen = new ArrayList<>(now.seen.subList(0, n));
        return was;
    }

    private static boolean asSeen(World w) {
        for (int[] s : w.seen) if (say(w.copy().days(s[0]).people.get(s[1]).wants) != s[2]) return false;
        return true;
    }

    private static int bits(int n, ToIntFunction<Integer> has) {
        int bits = 0;
        for (int i = 0; i < n; i++) bits |= has.applyAsInt(i) << i;
        return bits;
    }

    int kinds(int r) {
        if (!isReader(r)) return BAD;
        return bits(4, k -> asSeen(with(w -> w.people.get(r).kind = k)) ? 1 : 0);
    }

    int heights(int b) {
        if (!isBook(b)) return BAD;
        return bits(10, h -> asSeen(with(w -> w.books.get(b).height = h)) ? 1 : 0);
    }

    int ask(int b, int what) {
        if (!isBook(b) || !in(what, 0, 1)) return BAD;
        int left = heights(b);
        int best = NONE;
        int fewest = Integer.bitCount(left);
        for (int n = 0; n <= 20; n++) {
            for (int r = 0; r < now.people.size(); r++) {
                Map<Integer, Integer> parts = new HashMap<>();
                int worst = 0;
                for (int i = 0; i < 10; i++) {
                    int h = i;
                    if ((left >> h & 1) == 0) continue;
                    int wants = say(with(w -> w.books.get(b).height = h).days(n).people.get(r).wants);
                    worst = Math.max(worst, parts.merge(wants, 1, Integer::sum));
                }
                if (worst < fewest) {
                    fewest = worst;
                    best = 10 * n + r;
                }
            }
        }
        return best == NONE ? NONE : what == 0 ? best : fewest;
    }

    // ---- by a seed

    int drift(int seed, int n, int what) {
        if (!in(n, 1, 60) || !in(what, 0, 1)) return BAD;
        if (now.books.isEmpty() || now.people.isEmpty()) return STATE;
        World w = now.copy();
        BigInteger s = BigInteger.valueOf(seed);
        BigInteger word = BigInteger.ONE.shiftLeft(32);
        for (int i = 0; i < n; i++) {
            s = s.multiply(BigInteger.valueOf(1103515245)).add(BigInteger.valueOf(12345)).mod(word);
            int got = 0;
            for (int bit = 16; bit <= 30; bit++) if (s.testBit(bit)) got += 1 << bit - 16;
            Person p = w.people.get(got % w.people.size());
            p.wants = got / 8 % w.books.size();
            p.had.clear();
            w.steps = got / 64 % 8;
            w.day();
        }
        return what == 0 ? w.fetched : w.minutes;
    }

    // ---- images, sheets

    int keep(int k) {
        if (!in(k, 0, 1)) return BAD;
        int was = images[k] == null ? 0 : 1;
        images[k] = now.copy();
        return was;
    }

    int back(int k) {
        if (!in(k, 0, 1)) return BAD;
        if (images[k] == null) return STATE;
        now = images[k].copy();
        return now.clock;
    }

    int sheet(int k, int lane, int n) {
        if (!in(k, 0, 3) || !in(lane, 0, 2) || n > 40) return BAD;
        if (n < 0) return -14;
        lanes[k] = lane;
        cells[k] = new int[n];
        return 1;
    }

    int lay(int k, int i, int v) {
        if (!in(k, 0, 3)) return BAD;
        if (cells[k] == null) return -11;
        if (!in(i, 0, cells[k].length - 1)) return -12;
        int unused = new int[] {24, 16, 0}[lanes[k]];
        cells[k][i] = v << unused >> unused;
        return 1;
    }

    int read(int k, int lane, int f, int n) {
        if (!in(k, 0, 3) || !in(lane, 0, 2) || !in(n, 0, 20)) return BAD;
        World was = now.copy();
        int found = 0;
        int came = 0;
        for (int i = 0; i < n && found == 0; i++) {
            long at = f + 2L * i;
            if (cells[k] == null) found = 1;
            else if (lanes[k] != lane) found = 3;
            else if (at < 0 || at + 1 >= cells[k].length) found = 2;
            else if (fetch(cells[k][(int) at], cells[k][(int) at + 1]) < 0) {
                now = was;
                return -20 - i;
            } else came++;
        }
        torn = found;
        return came;
    }

    int torn() {
        return torn;
    }

    int count(int what) {
        if (!in(what, 0, 5)) return BAD;
        int taken = (images[0] == null ? 0 : 1) + (images[1] == null ? 0 : 1);
        int heights = now.books.stream().mapToInt(b -> b.height).sum();
        int bears = now.people.stream().mapToInt(p -> p.bears).sum();
        int row = cells[0] == null ? NONE : cells[0].length;
        return new int[] {now.seen.size(), taken, tape.length(), row, heights, bears}[what];
    }
}
