/** Boundary cases of the promises 19 to 26: what is best, and days on which the steps run. */
public final class BestEdgeTest {
    private static final int BAD = Edge.BAD, NONE = Edge.NONE;
    private static final int MOST = Edge.MOST;
    private static final String EIGHT = "book 0 9 1;book 0 9 2;book 0 9 3;book 0 9 4;book 0 9 5;book 0 9 6;book 0 9 7;"
            + "book 0 9 9;";
    private static final Edge edge = new Edge();

    public static void main(String[] args) {
        p19Order();
        p19AllRows();
        p19OfSeveral();
        p19Minutes();
        p19Places();
        p20Start();
        p20OfSeveral();
        p20HowMany();
        p20Bad();
        p21Swap();
        p21MoreThanAsItIs();
        p21OfSeveral();
        p21HowMany();
        p21Bad();
        p21None();
        p22Knee();
        p22OfSeveral();
        p22HowManyDays();
        p22Bad();
        p22None();
        p23Need();
        p23BehindDays();
        p23Bad();
        p23None();
        p24High();
        p24BehindDays();
        p24Bad();
        p24None();
        p25Days();
        p25Odds();
        p25AtMost();
        p25ByItself();
        p25Parts();
        p26Mean();
        p26Parts();
        edge.finish("BestEdgeTest", 19, 26);
    }

    // ---- order

    private static void p19Order() {
        edge.test(19, "The order of READERS (rows of all, each once) by which a DAY takes least minutes,");
        edge.is("nobody", 0, new UpperSteps().order(0));
        edge.is("one", 7, Due.told("book 7 0 9;guest 0 1;").order(0));
        // The last of the 24 rows, and the first.
        String books = "book 6 0 9;book 4 0 9;book 2 0 9;book 0 0 9;";
        UpperSteps x = Due.told(books + "guest 0 1;guest 1 1;guest 2 1;guest 3 1;");
        row(x, 6, 3, 2, 1, 0);
        x.roll(6);
        row(x, 6, 0, 1, 2, 3);
        edge.is("nothing is changed", 0, x.rule(3));
        edge.is("nor where THE STEPS are", 6, x.rule(2));
        // Each once: who WANTS none has his place, too.
        row(Due.told(books + "guest 9 1;guest 0 1;guest 9 1;guest 3 1;"), 6, 0, 2, 3, 1);
        // A DAY: what is FETCHED in it, not all that is WANTED.
        row(Due.told("book 7 9 9;book 1 0 9;guest 0 8;guest 1 1;"), 1, 0, 1);
    }

    private static void p19AllRows() {
        edge.test(19, "(rows of all, each once)");
        // THE STEPS go up once if he who is first WANTS the first BOOK: no other row is as good.
        int rows = 0;
        for (int i = 0; i < 256; i++) {
            int[] row = {i / 64, i / 16 % 4, i / 4 % 4, i % 4};
            int[] wants = new int[4];
            int met = 0;
            for (int place = 0; place < 4; place++) {
                wants[row[place]] = place;
                met |= 1 << row[place];
            }
            if (met == 15) {
                rows++;
                StringBuilder text = new StringBuilder("book 0 0 9;book 2 0 9;book 5 0 9;book 7 0 9;");
                for (int r = 0; r < 4; r++) {
                    text.append("guest ").append(wants[r]).append(" 1;");
                }
                row(Due.told(text.toString()), 7, row);
            }
        }
        edge.is("rows", 24, rows);
    }

    private static void row(UpperSteps x, int minutes, int... due) {
        edge.is("minutes", minutes, x.order(0));
        for (int i = 0; i < due.length; i++) {
            edge.is("place " + i, due[i], x.order(10 + i));
        }
    }

    private static void p19OfSeveral() {
        edge.test(19, "of several the first:");
        row(Due.told("book 3 3 9;lord 0 9;lord 0 9;lord 0 9;lord 0 9;"), 3 + 16, 0, 1, 2, 3);
        row(Due.told("guest 9 1;guest 9 1;guest 9 1;guest 9 1;"), 0, 0, 1, 2, 3);
        // 1 must be ahead of 0; 2 may be anywhere: the first row is 1 0 2.
        row(Due.told("book 7 0 9;book 0 0 9;guest 0 1;guest 1 1;guest 9 1;"), 7, 1, 0, 2);
        // 2 must be ahead of 1: the first row is 0 2 1.
        row(Due.told("book 7 0 9;book 0 0 9;guest 9 1;guest 0 1;guest 1 1;"), 7, 0, 2, 1);
    }

    private static void p19Minutes() {
        edge.test(19, "these minutes (what 0);");
        UpperSteps x = Due.told("book 7 0 9;book 0 0 9;guest 0 1;guest 1 1;");
        edge.is("as it is", 14, x.runs(1, 1));
        edge.is("by the other order", 7, x.order(0));
        edge.is("above CLOCK 9999", 36, lateOrder().order(0));
    }

    private static UpperSteps lateOrder() {
        UpperSteps x = Edge.clockAt(9999);
        x.alter(0, 1, 0);
        x.alter(0, 2, 13);
        return x;
    }

    private static void p19Places() {
        edge.test(19, "10 and i: the READER in place i. BAD.");
        String[] texts = {"", "guest 9 1;", "guest 9 1;guest 9 1;", "guest 9 1;guest 9 1;guest 9 1;",
            "guest 9 1;guest 9 1;guest 9 1;guest 9 1;"};
        for (int readers = 0; readers <= 4; readers++) {
            UpperSteps x = Due.told(texts[readers]);
            edge.is("what 0", 0, x.order(0));
            for (int i = 0; i < 4; i++) {
                edge.is("place " + i + " of " + readers, i < readers ? i : BAD, x.order(10 + i));
            }
            for (int what : new int[] {Edge.LEAST, -1, 1, 2, 3, 9, 14, 20, MOST}) {
                edge.is("what " + what, BAD, x.order(what));
            }
        }
        edge.refused("order(9)", BAD, y -> y.order(9));
        edge.refused("order(13) of three", BAD, y -> y.order(13));
    }

    // ---- start

    private static void p20Start() {
        edge.test(20, "The BAY at which THE STEPS are to be so that n DAYS (0 to 60) take least minutes,");
        for (int bay = 0; bay < 8; bay++) {
            UpperSteps x = Due.told("book " + bay + " 2 9;guest 0 9;steps 3;");
            edge.is("the BAY of the first BOOK", bay, x.start(1, 0));
            edge.is("in 60 DAYS", bay, x.start(60, 0));
            edge.is("THE STEPS stay", 3, x.rule(2));
            edge.is("CLOCK stays", 0, x.rule(3));
        }
        // Nobody reads on the first DAY but the second READER.
        edge.is("of who reads", 6, Due.told("book 2 9 9;book 6 1 9;guest 0 8;guest 1 8;").start(1, 0));
    }

    private static void p20OfSeveral() {
        edge.test(20, "of several the first (what 0),");
        UpperSteps x = Due.told("book 5 1 9;guest 0 1;steps 6;");
        edge.is("no DAY", 0, x.start(0, 0));
        edge.is("a DAY", 5, x.start(1, 0));
        x.alter(0, 1, 9);
        edge.is("who WANTS none", 0, x.start(60, 0));
        edge.is("nobody", 0, new UpperSteps().start(60, 0));
    }

    private static void p20HowMany() {
        edge.test(20, "how many (1).");
        UpperSteps x = Due.told("book 7 9 1;book 0 9 9;nephew 0 13;");
        edge.is("no DAY", 0, x.start(0, 1));
        edge.is("one", 36, x.start(1, 1));
        edge.is("two", 36 + 43, x.start(2, 1));
        edge.is("60", 79, x.start(60, 1));
        edge.is("nobody", 0, new UpperSteps().start(60, 1));
        edge.is("above CLOCK 9999", 36, lateOrder().start(1, 1));
    }

    private static void p20Bad() {
        edge.test(20, "BAD.");
        for (int what = 0; what < 2; what++) {
            int asked = what;
            edge.bounds("n for " + what, 0, 60, n -> Edge.lived().start(n, asked));
        }
        edge.bounds("what", 0, 1, what -> Edge.lived().start(1, what));
        edge.refused("start(61, 0)", BAD, y -> y.start(61, 0));
        edge.refused("start(1, 2)", BAD, y -> y.start(1, 2));
    }

    // ---- swap

    private static void p21Swap() {
        edge.test(21, "Two BOOKS that are to change BAYS and HEIGHTS so that most BOOKS are FETCHED",
                "in n DAYS (0 to 60),");
        // By 0 and 5 two are FETCHED, by 1 and 5 four.
        UpperSteps x = Due.told("book 0 3 1;book 1 9 2;book 2 3 3;book 3 3 9;book 4 6 9;book 5 0 9;guest 0 9;");
        edge.is("as it is", 1, x.runs(1, 0));
        edge.is("the most", 15, x.swap(1, 0));
        edge.is("how many", 4, x.swap(1, 1));
        edge.is("nothing is changed", 9, x.book(1, 1));
        edge.is("nor the BAY", 1, x.book(1, 0));
        x.shelve(1, 1, 0);
        x.shelve(1, 0, 5);
        x.shelve(5, 1, 9);
        x.shelve(5, 0, 1);
        edge.is("so it is when they are changed", 4, x.runs(1, 0));
    }

    private static void p21MoreThanAsItIs() {
        edge.test(21, "more than as it is:");
        UpperSteps x = Due.told("book 0 5 9;book 0 4 9;guest 0 4;");
        edge.is("more", 1, x.swap(60, 0));
        x.alter(0, 2, 5);
        edge.is("as many", NONE, x.swap(60, 0));
        x.alter(0, 2, 3);
        edge.is("none as well", NONE, x.swap(60, 0));
        // More in one DAY, not in two.
        UpperSteps y = Due.told("book 0 5 1;book 0 5 9;book 0 0 9;guest 0 5;");
        edge.is("in one", 2, y.swap(1, 0));
        edge.is("in two", NONE, y.swap(2, 0));
    }

    private static void p21OfSeveral() {
        edge.test(21, "10 times the lesser and the greater, of several the least (what 0),");
        UpperSteps x = Due.told("book 0 9 9;book 0 1 9;book 0 1 9;guest 0 5;");
        edge.is("0 and 1 of 0 and 2, too", 1, x.swap(1, 0));
        x.shelve(1, 1, 9);
        edge.is("0 and 2", 2, x.swap(1, 0));
        UpperSteps y = Due.told("book 0 1 9;book 0 9 9;book 0 1 9;guest 1 5;");
        edge.is("0 and 1 of 1 and 2, too", 1, y.swap(1, 0));
        y.shelve(0, 1, 9);
        edge.is("1 and 2", 12, y.swap(1, 0));
        UpperSteps last = Due.told("book 0 9 9;".repeat(7) + "book 0 0 9;guest 6 5;");
        edge.is("6 and 7", 67, last.swap(1, 0));
        last.alter(0, 1, 0);
        edge.is("0 and 7", 7, last.swap(1, 0));
    }

    private static void p21HowMany() {
        edge.test(21, "how many (1).");
        UpperSteps x = Due.told("book 0 9 9;book 0 1 9;" + "guest 0 5;".repeat(4));
        edge.is("none as it is", 0, x.runs(1, 0));
        edge.is("each of four", 4, x.swap(1, 1));
        edge.is("in 60", 4, x.swap(60, 1));
        edge.is("in none", NONE, x.swap(0, 1));
    }

    private static void p21Bad() {
        edge.test(21, "BAD;");
        for (int what = 0; what < 2; what++) {
            int asked = what;
            edge.bounds("n for " + what, 0, 60, n -> Edge.lived().swap(n, asked));
        }
        edge.bounds("what", 0, 1, what -> Edge.lived().swap(1, what));
        edge.is("BAD is ahead of NONE", BAD, new UpperSteps().swap(0, 2));
        edge.refused("swap(61, 0)", BAD, y -> y.swap(61, 0));
    }

    private static void p21None() {
        edge.test(21, "NONE: by none.");
        for (int what = 0; what < 2; what++) {
            edge.is("no BOOKS", NONE, Due.told("guest 9 1;").swap(60, what));
            edge.is("one BOOK", NONE, Due.told("book 0 9 9;guest 0 1;").swap(60, what));
            edge.is("nobody", NONE, Due.told("book 0 9 9;book 0 0 9;").swap(60, what));
            edge.is("no DAY", NONE, Due.told("book 0 9 9;book 0 0 9;guest 0 1;").swap(0, what));
            edge.is("one DAY", 1, Due.told("book 0 9 9;book 0 0 9;guest 0 1;").swap(1, what));
        }
    }

    // ---- knee

    private static void p22Knee() {
        edge.test(22, "The BOOK that is to be at HEIGHT 0 so that a READER is DONE soonest (in 60 DAYS),");
        UpperSteps x = Due.told("book 0 2 1;book 0 5 2;book 0 5 9;guest 0 7;");
        edge.is("as it is", 2, x.done(0));
        edge.is("0 leaves two DAYS, 1 but one", 1, x.knee(0, 0));
        edge.is("one DAY", 1, x.knee(0, 1));
        edge.is("nothing is changed", 5, x.book(1, 1));
        UpperSteps last = Due.told("book 0 0 9;".repeat(7) + "book 0 9 9;guest 7 8;");
        edge.is("the last of eight", 7, last.knee(0, 0));
    }

    private static void p22OfSeveral() {
        edge.test(22, "of several the first (what 0),");
        UpperSteps x = Due.told("book 0 5 1;book 0 5 9;guest 0 5;");
        edge.is("0, as well as 1", 0, x.knee(0, 0));
        x.shelve(1, 1, 9);
        edge.is("1 alone", 1, x.knee(0, 0));
        x.shelve(0, 1, 0);
        edge.is("1 alone, behind what is at HEIGHT 0", 1, x.knee(0, 0));
        x.shelve(1, 1, 0);
        edge.is("neither is needed", 0, x.knee(0, 0));
    }

    private static void p22HowManyDays() {
        edge.test(22, "behind how many DAYS (1).");
        UpperSteps x = Due.told(EIGHT + "guest 0 9;guest 9 1;guest 7 9;");
        // One BOOK of eight at HEIGHT 0: it goes with the one beside it.
        edge.is("seven", 7, x.knee(0, 1));
        edge.is("who is DONE", 0, x.knee(1, 1));
        edge.is("who is DONE has BOOK 0", 0, x.knee(1, 0));
        edge.is("one", 1, x.knee(2, 1));
    }

    private static void p22Bad() {
        edge.test(22, "BAD;");
        for (int what = 0; what < 2; what++) {
            int asked = what;
            edge.bounds("READER for " + what, 0, 2, r -> Edge.lived().knee(r, asked));
        }
        edge.bounds("what", 0, 1, what -> Edge.lived().knee(0, what));
        edge.is("nobody", BAD, new UpperSteps().knee(0, 0));
        edge.is("BAD is ahead of NONE", BAD, Due.told("guest 9 1;").knee(0, -1));
        edge.refused("knee(3, 0)", BAD, y -> y.knee(3, 0));
    }

    private static void p22None() {
        edge.test(22, "NONE: by none.");
        for (int what = 0; what < 2; what++) {
            UpperSteps x = Due.told("book 0 9 1;book 0 9 9;guest 0 8;");
            edge.is("two are too high", NONE, x.knee(0, what));
            x.alter(0, 2, 9);
            edge.is("none is", what, x.knee(0, what));
            edge.is("no BOOKS", NONE, Due.told("guest 9 1;").knee(0, what));
        }
    }

    // ---- need

    private static void p23Need() {
        edge.test(23, "The least that a READER must BEAR (1 to 99)");
        UpperSteps x = Due.told("book 0 0 9;guest 0 50;guest 9 50;");
        edge.is("not DIZZY at all", 1, x.need(0, 1));
        edge.is("who is DONE", 1, x.need(1, 60));
        x.shelve(0, 1, 1);
        edge.is("1", 1, x.need(0, 1));
        x.shelve(0, 1, 2);
        edge.is("2", 2, x.need(0, 1));
        edge.is("what he BEARS stays", 50, x.reader(0, 2));
        // 98 is the most below 100 that BOOKS can make one DIZZY.
        UpperSteps y = Due.told("book 0 9 1;book 0 9 2;book 0 9 3;book 0 9 4;book 0 9 5;book 0 4 9;lord 0 1;");
        edge.is("98", 98, y.need(0, 1));
        y.shelve(5, 1, 5);
        edge.is("100", NONE, y.need(0, 1));
        UpperSteps z = Due.told(EIGHT + "nephew 0 1;");
        z.shelve(7, 1, 6);
        edge.is("98 of a nephew", 98, z.need(0, 1));
        z.shelve(7, 1, 7);
        edge.is("100 of a nephew", NONE, z.need(0, 1));
    }

    private static void p23BehindDays() {
        edge.test(23, "so that he is DONE behind n DAYS (0 to 60).");
        UpperSteps x = Due.told(EIGHT + "guest 0 1;guest 9 99;");
        int[] due = {NONE, 72, 36, 27, 18, 18, 18, 18, 9, 9};
        for (int n = 0; n < due.length; n++) {
            edge.is("behind " + n, due[n], x.need(0, n));
            edge.is("who is DONE behind " + n, 1, x.need(1, n));
        }
        edge.is("behind 60", 9, x.need(0, 60));
    }

    private static void p23Bad() {
        edge.test(23, "BAD;");
        edge.bounds("READER", 0, 2, r -> Edge.lived().need(r, 1));
        edge.bounds("n", 0, 60, n -> Edge.lived().need(0, n));
        edge.is("nobody", BAD, new UpperSteps().need(0, 0));
        edge.refused("need(3, 1)", BAD, y -> y.need(3, 1));
        edge.refused("need(0, 61)", BAD, y -> y.need(0, 61));
    }

    private static void p23None() {
        edge.test(23, "NONE: by none.");
        UpperSteps x = Due.told("book 0 9 9;guest 0 1;");
        edge.is("behind no DAY", NONE, x.need(0, 0));
        edge.is("behind one", 9, x.need(0, 1));
        x.fetch(0, 0);
        edge.is("he HAD it, but WANTS it still", NONE, x.need(0, 0));
        edge.is("behind one he WANTS none", 1, x.need(0, 1));
    }

    // ---- high

    private static void p24High() {
        edge.test(24, "The greatest HEIGHT (0 to 9) of a BOOK by which a READER HAD it");
        UpperSteps x = Due.told("book 0 5 9;guest 0 1;");
        for (int bears = 1; bears <= 10; bears++) {
            x.alter(0, 2, bears);
            edge.is("who BEARS " + bears, Math.min(9, bears), x.high(0, 0, 1));
        }
        edge.is("HEIGHT stays", 5, x.book(0, 1));
        UpperSteps y = Due.told("book 0 5 1;book 0 3 9;guest 0 5;");
        edge.is("at 0 alone", 0, y.high(1, 0, 1));
        y.alter(0, 2, 14);
        edge.is("at 9", 9, y.high(1, 0, 1));
        y.alter(0, 2, 13);
        edge.is("at 8", 8, y.high(1, 0, 1));
    }

    private static void p24BehindDays() {
        edge.test(24, "behind n DAYS (0 to 60).");
        UpperSteps x = Due.told(EIGHT + "guest 0 9;");
        for (int b = 0; b < 8; b++) {
            // Behind b DAYS he is there only if it is at the knee.
            edge.is("BOOK " + b + " behind " + b, b == 0 ? NONE : 0, x.high(b, 0, b));
            edge.is("BOOK " + b + " behind " + (b + 1), 9, x.high(b, 0, b + 1));
            edge.is("BOOK " + b + " behind 60", 9, x.high(b, 0, 60));
        }
        x.fetch(0, 7);
        edge.is("what he HAD, behind 0", 9, x.high(7, 0, 0));
    }

    private static void p24Bad() {
        edge.test(24, "BAD;");
        edge.bounds("BOOK", 0, 2, b -> Edge.lived().high(b, 0, 1));
        edge.bounds("READER", 0, 2, r -> Edge.lived().high(0, r, 1));
        edge.bounds("n", 0, 60, n -> Edge.lived().high(0, 0, n));
        edge.bounds("BOOK of eight", 0, 7, b -> Due.told(EIGHT + "guest 0 9;").high(b, 0, 1));
        edge.is("nobody", BAD, Due.told("book 0 0 9;").high(0, 0, 0));
        edge.is("no BOOK", BAD, Due.told("guest 9 1;").high(0, 0, 0));
        edge.refused("high(3, 0, 1)", BAD, y -> y.high(3, 0, 1));
        edge.refused("high(0, 3, 1)", BAD, y -> y.high(0, 3, 1));
    }

    private static void p24None() {
        edge.test(24, "NONE: by none.");
        UpperSteps x = Due.told("book 0 0 9;book 0 0 9;guest 0 9;");
        edge.is("behind no DAY", NONE, x.high(0, 0, 0));
        edge.is("behind one", 9, x.high(0, 0, 1));
        edge.is("what he never WANTS", NONE, x.high(1, 0, 60));
        x.shelve(0, 2, 1);
        edge.is("what he comes to WANT", 9, x.high(1, 0, 60));
    }

    // ---- luck, mean

    private static void luck(UpperSteps x, int v, int n, int most, long above, long below) {
        String call = "luck(" + v + ", " + n + ", " + most;
        edge.is(call + ", 0)", above, x.luck(v, n, most, 0));
        edge.is(call + ", 1)", below, x.luck(v, n, most, 1));
    }

    private static void mean(UpperSteps x, int v, int n, long above, long below) {
        String call = "mean(" + v + ", " + n;
        edge.is(call + ", 0)", above, x.mean(v, n, 0));
        edge.is(call + ", 1)", below, x.mean(v, n, 1));
    }

    /** A BOOK a DAY for eight DAYS: 18 minutes each, 25 if THE STEPS ran. */
    private static UpperSteps eightDays() {
        return Due.told(EIGHT + "guest 0 9;");
    }

    private static void p25Days() {
        edge.test(25, "Ahead of each of n DAYS (0 to 8)");
        UpperSteps x = eightDays();
        for (int n = 0; n <= 8; n++) {
            // THE STEPS never run, always run.
            luck(x, 0, n, 18 * n, 1, 1);
            luck(x, 10, n, 25 * n, 1, 1);
            if (n > 0) {
                luck(x, 0, n, 18 * n - 1, 0, 1);
                luck(x, 10, n, 25 * n - 1, 0, 1);
            }
        }
        edge.bounds("n", 0, 8, n -> Edge.lived().luck(5, n, 9999, 0));
        edge.bounds("n by", 0, 8, n -> Edge.lived().luck(5, n, 9999, 1));
        // Ahead of a DAY: where the last DAY leaves THE STEPS is where they are.
        UpperSteps y = Due.told("book 7 0 1;book 0 5 9;guest 0 5;");
        luck(y, 10, 1, 16, 0, 1);
        luck(y, 10, 1, 17, 1, 1);
    }

    private static void p25Odds() {
        edge.test(25, "THE STEPS run to BAY 7 by v out of ten (0 to 10),");
        UpperSteps x = Due.told("book 0 0 9;guest 0 1;");
        for (int v = 0; v <= 10; v++) {
            long by = v == 0 || v == 10 ? 1 : v == 5 ? 2 : v % 2 == 0 ? 5 : 10;
            luck(x, v, 1, 6, (10 - v) * by / 10, by);
            luck(x, v, 1, 7, 1, 1);
        }
        edge.bounds("v", 0, 10, v -> Edge.lived().luck(v, 1, 1, 0));
        luck(Due.told("book 7 0 9;guest 0 1;steps 7;"), 5, 8, 0, 1, 1);
        luck(Due.told("book 7 0 9;guest 0 1;steps 6;"), 5, 1, 0, 1, 2);
    }

    private static void p25AtMost() {
        edge.test(25, "that minutes of all these DAYS are so many (0 to 9999) at most:");
        UpperSteps x = eightDays();
        luck(x, 5, 2, 35, 0, 1);
        luck(x, 5, 2, 36, 1, 4);
        luck(x, 5, 2, 42, 1, 4);
        luck(x, 5, 2, 43, 3, 4);
        luck(x, 5, 2, 49, 3, 4);
        luck(x, 5, 2, 50, 1, 1);
        luck(x, 5, 8, 9999, 1, 1);
        luck(x, 5, 8, 0, 0, 1);
        luck(x, 5, 0, 0, 1, 1);
        edge.bounds("most", 0, 9999, most -> Edge.lived().luck(5, 1, most, 0));
        // Minutes of these DAYS, not CLOCK.
        luck(lateOrder(), 0, 1, 36, 1, 1);
        luck(lateOrder(), 0, 1, 35, 0, 1);
    }

    private static void p25ByItself() {
        edge.test(25, "by itself:");
        UpperSteps x = eightDays();
        luck(x, 3, 8, 8 * 18, 5764801, 100000000);
        luck(x, 3, 8, 8 * 25 - 1, 100000000 - 6561, 100000000);
        luck(x, 5, 8, 8 * 18, 1, 256);
        luck(x, 1, 2, 36, 81, 100);
        luck(x, 1, 2, 43, 99, 100);
        edge.is("nothing is changed", 0, x.rule(3) + x.rule(4) + x.reader(0, 3) + x.rule(2));
    }

    private static void p25Parts() {
        edge.test(25, "0, 1. BAD.");
        edge.bounds("what", 0, 1, what -> Edge.lived().luck(5, 1, 1, what));
        edge.is("nobody", 1, new UpperSteps().luck(5, 8, 0, 0));
        edge.is("nobody by", 1, new UpperSteps().luck(5, 8, 0, 1));
        edge.refused("luck(11, 1, 1, 0)", BAD, y -> y.luck(11, 1, 1, 0));
        edge.refused("luck(5, 9, 1, 0)", BAD, y -> y.luck(5, 9, 1, 0));
        edge.refused("luck(5, 1, 10000, 0)", BAD, y -> y.luck(5, 1, 10000, 0));
        edge.refused("luck(5, 1, 1, 2)", BAD, y -> y.luck(5, 1, 1, 2));
    }

    private static void p26Mean() {
        edge.test(26, "Likewise, the mean of these minutes:");
        UpperSteps x = eightDays();
        for (int n = 0; n <= 8; n++) {
            mean(x, 0, n, 18 * n, 1);
            mean(x, 10, n, 25 * n, 1);
        }
        mean(x, 5, 1, 43, 2);
        mean(x, 5, 2, 43, 1);
        mean(x, 1, 1, 187, 10);
        mean(x, 1, 8, 748, 5);
        mean(x, 5, 0, 0, 1);
        edge.bounds("n", 0, 8, n -> Edge.lived().mean(5, n, 0));
        edge.bounds("n by", 0, 8, n -> Edge.lived().mean(5, n, 1));
        edge.bounds("v", 0, 10, v -> Edge.lived().mean(v, 1, 0));
        edge.is("nothing is changed", 0, x.rule(3) + x.rule(4) + x.reader(0, 3) + x.rule(2));
        mean(lateOrder(), 0, 1, 36, 1);
        // DAYS on which nothing is FETCHED take no minutes, wherever THE STEPS are.
        mean(Due.told("book 0 9 9;guest 0 8;"), 5, 8, 0, 1);
        mean(Due.told("book 0 0 9;guest 0 8;"), 5, 8, 7, 2);
    }

    private static void p26Parts() {
        edge.test(26, "0, 1. BAD.");
        edge.bounds("what", 0, 1, what -> Edge.lived().mean(5, 1, what));
        edge.is("nobody", 0, new UpperSteps().mean(5, 8, 0));
        edge.is("nobody by", 1, new UpperSteps().mean(5, 8, 1));
        edge.refused("mean(11, 1, 0)", BAD, y -> y.mean(11, 1, 0));
        edge.refused("mean(5, 9, 0)", BAD, y -> y.mean(5, 9, 0));
        edge.refused("mean(5, 1, 2)", BAD, y -> y.mean(5, 1, 2));
    }
}
