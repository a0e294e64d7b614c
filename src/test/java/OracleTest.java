import java.util.Random;

/** Runs of calls drawn by fixed seeds, each answer held against the Oracle's. */
public final class OracleTest {
    private static final int RUNS = 400, CALLS = 340;
    private static final String LETTERS = "abdeghiklmnopqrstuw 0123456789;XZ\t";
    private static final int[] ODD = {
        Integer.MIN_VALUE, Integer.MAX_VALUE, -1, -4, -10, 8, 9, 10, 11, 20, 21, 30, 31, 40, 41, 60, 61, 99,
        100, 127, 128, 255, 256, 65536, 9999, 10000, 1 << 30, -(1 << 30)};

    private final Random lot;
    private final UpperSteps x = new UpperSteps();
    private final Oracle o = new Oracle();
    private final Due due;
    private final int run;

    private OracleTest(int run, Due due) {
        this.run = run;
        this.due = due;
        lot = new Random(run);
    }

    public static void main(String[] args) {
        Due due = new Due();
        for (int run = 0; run < RUNS; run++) {
            new OracleTest(run, due).go();
        }
        due.finish("OracleTest");
    }

    private void go() {
        if (lot.nextInt(8) != 0) {
            tell(wellFormed());
        }
        for (int i = 0; i < CALLS; i++) {
            call();
        }
    }

    private void is(String call, long want, long got) {
        due.is("run " + run + ": " + call, want, got);
    }

    private void tell(String text) {
        for (int i = 0; i < text.length(); i++) {
            is("feed", o.feed(text.charAt(i)), x.feed(text.charAt(i)));
        }
        if (lot.nextInt(20) == 0) {
            int n = upTo(text.length());
            is("end " + n, o.end(n), x.end(n));
        }
        is("text " + text, o.text(), x.text());
        is("fault", o.fault(), x.fault());
        look();
    }

    private String blank() {
        return " ".repeat(lot.nextInt(12) == 0 ? 2 : 1);
    }

    private String wellFormed() {
        int books = lot.nextInt(10) == 0 ? lot.nextInt(10) : 1 + lot.nextInt(8);
        int readers = lot.nextInt(10) == 0 ? lot.nextInt(6) : 1 + lot.nextInt(4);
        StringBuilder s = new StringBuilder();
        for (int b = 0; b < books; b++) {
            s.append("book").append(blank()).append(lot.nextInt(8)).append(blank()).append(lot.nextInt(10));
            s.append(blank()).append(told(books)).append(";");
        }
        for (int r = 0; r < readers; r++) {
            s.append(new String[] {"guest", "nephew", "lord", "maid"}[lot.nextInt(4)]).append(blank());
            s.append(told(books)).append(blank()).append(1 + lot.nextInt(lot.nextBoolean() ? 25 : 99)).append(";");
        }
        if (lot.nextBoolean()) {
            s.append("steps ").append(lot.nextInt(8)).append(";");
        }
        return s.toString();
    }

    private int told(int books) {
        return books == 0 || lot.nextInt(7) == 0 ? 9 : Math.min(7, lot.nextInt(books));
    }

    private String spoilt() {
        StringBuilder s = new StringBuilder(wellFormed());
        for (int i = lot.nextInt(3); i >= 0 && s.length() > 0; i--) {
            int at = lot.nextInt(s.length());
            char c = LETTERS.charAt(lot.nextInt(LETTERS.length()));
            switch (lot.nextInt(4)) {
                case 0: s.setCharAt(at, c); break;
                case 1: s.insert(at, c); break;
                case 2: s.deleteCharAt(at); break;
                default: s.setLength(at); break;
            }
        }
        return s.toString();
    }

    private int upTo(int most) {
        return lot.nextInt(25) == 0 ? ODD[lot.nextInt(ODD.length)] : lot.nextInt(most + 1);
    }

    private int aBook() {
        return upTo(Math.max(0, Math.min(7, o.now.books.size() - 1)));
    }

    private int aReader() {
        return upTo(Math.max(0, o.now.people.size() - 1));
    }

    private int aBookOrNone() {
        return lot.nextInt(6) == 0 ? 9 : aBook();
    }

    private void look() {
        for (int what = 0; what < 6; what++) {
            is("rule " + what, o.rule(what), x.rule(what));
            is("count " + what, o.count(what), x.count(what));
        }
        for (int b = 0; b < 8; b++) {
            for (int what = 0; what < 4; what++) {
                is("book " + b + " " + what, o.book(b, what), x.book(b, what));
            }
        }
        for (int r = 0; r < 4; r++) {
            for (int what = 0; what < 6; what++) {
                is("reader " + r + " " + what, o.reader(r, what), x.reader(r, what));
            }
        }
        is("torn", o.torn(), x.torn());
    }

    private void call() {
        switch (lot.nextInt(5)) {
            case 0: change(); look(); break;
            case 1: best(); break;
            case 2: seen(); break;
            case 3: sheets(); look(); break;
            default: days(); look(); break;
        }
    }

    private void change() {
        int b = aBook();
        int r = aReader();
        int what = upTo(2);
        switch (lot.nextInt(12)) {
            case 0: case 1: {
                int v = what == 2 ? aBookOrNone() : upTo(what == 0 ? 7 : 9);
                is("shelve", o.shelve(b, what, v), x.shelve(b, what, v));
                break;
            }
            case 2: case 3: {
                int v = what == 1 ? aBookOrNone() : upTo(what == 0 ? 3 : 99);
                is("alter", o.alter(r, what, v), x.alter(r, what, v));
                break;
            }
            case 4: {
                int v = upTo(7);
                is("roll", o.roll(v), x.roll(v));
                break;
            }
            case 5: case 6: case 7: is("forgets", o.forgets(r), x.forgets(r)); break;
            case 8: case 9: case 10: is("fetch", o.fetch(r, b), x.fetch(r, b)); break;
            default: if (lot.nextInt(3) == 0) tell(spoilt()); break;
        }
    }

    private void days() {
        int n = upTo(lot.nextBoolean() ? 3 : 60);
        int r = aReader();
        int what = upTo(3);
        switch (lot.nextInt(7)) {
            case 0: {
                int few = lot.nextInt(6) == 0 ? upTo(30) : upTo(2);
                is("days " + few, o.days(few), x.days(few));
                break;
            }
            case 1: is("runs " + n + " " + what, o.runs(n, what), x.runs(n, what)); break;
            case 2: is("ahead", o.ahead(r, n, what & 1), x.ahead(r, n, what & 1)); break;
            case 3: is("done " + r, o.done(r), x.done(r)); break;
            case 4: is("vertigo " + r, o.vertigo(r), x.vertigo(r)); break;
            case 5: is("keep " + what, o.keep(what & 1), x.keep(what & 1)); break;
            default: is("back " + what, o.back(what), x.back(what)); break;
        }
    }

    private void best() {
        int n = upTo(lot.nextBoolean() ? 3 : 60);
        int b = aBook();
        int r = aReader();
        int what = upTo(1);
        switch (lot.nextInt(9)) {
            case 0: is("order", o.order(0), x.order(0)); break;
            case 1: {
                int place = 10 + upTo(3);
                is("order " + place, o.order(place), x.order(place));
                break;
            }
            case 2: is("start " + n, o.start(n, what), x.start(n, what)); break;
            case 3: is("swap " + n, o.swap(n, what), x.swap(n, what)); break;
            case 4: is("knee " + r, o.knee(r, what), x.knee(r, what)); break;
            case 5: is("need " + r, o.need(r, n), x.need(r, n)); break;
            case 6: is("high " + b, o.high(b, r, n), x.high(b, r, n)); break;
            default: chance(what); break;
        }
    }

    private void chance(int what) {
        int v = upTo(10);
        int n = upTo(lot.nextInt(5) == 0 ? 8 : 4);
        int most = upTo(lot.nextBoolean() ? 300 : 60);
        switch (lot.nextInt(3)) {
            case 0: is("luck " + v + " " + n, o.luck(v, n, most, what), x.luck(v, n, most, what)); break;
            case 1: is("mean " + v + " " + n, o.mean(v, n, what), x.mean(v, n, what)); break;
            default: {
                int seed = lot.nextInt();
                int long60 = upTo(60);
                is("drift " + seed, o.drift(seed, long60, what), x.drift(seed, long60, what));
                break;
            }
        }
    }

    private void seen() {
        int b = aBook();
        int r = aReader();
        switch (lot.nextInt(6)) {
            case 0: case 1: {
                int n = upTo(lot.nextBoolean() ? 2 : 20);
                // Mostly what will be so, or else nothing fits any more.
                int w = lot.nextInt(3) == 0 ? aBookOrNone() : Math.max(-4, o.ahead(r, Math.max(0, Math.min(60, n)), 0));
                w = w == Oracle.NONE ? 9 : w;
                is("see", o.see(n, r, w), x.see(n, r, w));
                break;
            }
            case 2: {
                int n = upTo(6);
                is("forget " + n, o.forget(n), x.forget(n));
                break;
            }
            case 3: is("kinds " + r, o.kinds(r), x.kinds(r)); break;
            case 4: is("heights " + b, o.heights(b), x.heights(b)); break;
            default: is("ask " + b, o.ask(b, r & 1), x.ask(b, r & 1)); break;
        }
    }

    private void sheets() {
        int k = upTo(lot.nextInt(3));
        int lane = lot.nextInt(3) == 0 ? upTo(2) : 0;
        switch (lot.nextInt(8)) {
            case 0: {
                int n = lot.nextInt(9) == 0 ? -lot.nextInt(9) : upTo(lot.nextBoolean() ? 6 : 40);
                is("sheet", o.sheet(k, lane, n), x.sheet(k, lane, n));
                break;
            }
            case 1: case 2: case 3: case 4: {
                int i = upTo(6);
                int v = i % 2 == 0 ? aReader() : aBook();
                is("lay " + i, o.lay(k, i, v), x.lay(k, i, v));
                break;
            }
            default: {
                int f = upTo(3);
                int n = upTo(lot.nextBoolean() ? 2 : 20);
                is("read " + f + " " + n, o.read(k, lane, f, n), x.read(k, lane, f, n));
                is("torn", o.torn(), x.torn());
                break;
            }
        }
    }
}
