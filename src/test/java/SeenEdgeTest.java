/** Boundary cases of the promises 27 to 34: who wanted what when, days by a seed, images. */
public final class SeenEdgeTest {
    private static final int BAD = Edge.BAD, STATE = Edge.STATE, FULL = Edge.FULL, NONE = Edge.NONE;
    private static final int LEAST = Edge.LEAST, MOST = Edge.MOST;
    private static final String EIGHT = "book 0 8 1;book 0 8 2;book 0 8 3;book 0 8 4;book 0 8 5;book 0 8 6;book 0 8 7;"
            + "book 0 8 9;";
    private static final Edge edge = new Edge();

    public static void main(String[] args) {
        p27Days();
        p27Reader();
        p27Book();
        p27HowMany();
        p27Full();
        p28Forget();
        p28Bad();
        p29Kinds();
        p29AllElseAsItIs();
        p29Bad();
        p30Heights();
        p30AllElseAsItIs();
        p30Bad();
        p31Days();
        p31Reader();
        p31FewestLeft();
        p31OfSeveral();
        p31HowMany();
        p31Bad();
        p31None();
        p32ByItself();
        p32Days();
        p32Seed();
        p32Reader();
        p32Book();
        p32HadNothing();
        p32Bay();
        p32Sums();
        p32Bad();
        p32State();
        p33Keep();
        p33ThereWasOne();
        p33Bad();
        p34Back();
        p34Bad();
        p34State();
        edge.finish("SeenEdgeTest", 27, 34);
    }

    // ---- see, forget

    private static UpperSteps sixSeen() {
        UpperSteps x = Due.told("book 0 6 9;guest 0 6;");
        for (int i = 0; i < 6; i++) {
            x.see(i, 0, i == 0 ? 0 : 9);
        }
        return x;
    }

    private static void p27Days() {
        edge.test(27, "SEEN: behind n DAYS (0 to 20)", "BAD;");
        edge.bounds("n", 0, 20, n -> Edge.lived().see(n, 0, 9));
        UpperSteps x = Due.told("book 0 6 9;guest 0 6;");
        x.see(0, 0, 9);
        edge.is("none behind 0 DAYS", 0, x.kinds(0));
        x.forget(0);
        x.see(20, 0, 9);
        edge.is("none behind 20 DAYS", 9, x.kinds(0));
        for (int n : new int[] {-1, 21, LEAST, MOST}) {
            edge.refused("see(" + n + ", 0, 0)", BAD, y -> y.see(n, 0, 0));
        }
    }

    private static void p27Reader() {
        edge.test(27, "a READER WANTS");
        edge.bounds("READER", 0, 2, r -> Edge.lived().see(0, r, 9));
        edge.bounds("READER of four", 0, 3, r -> Due.told("guest 9 1;".repeat(4)).see(0, r, 9));
        edge.is("nobody", BAD, new UpperSteps().see(0, 0, 9));
        edge.refused("see(0, 3, 0)", BAD, y -> y.see(0, 3, 0));
        edge.refused("see(0, -1, 0)", BAD, y -> y.see(0, -1, 0));
    }

    private static void p27Book() {
        edge.test(27, "BOOK w (0 to 7; 9: none)");
        for (String text : new String[] {"guest 9 6;", "book 0 6 9;guest 0 6;", EIGHT + "guest 0 6;"}) {
            edge.bounds("BOOK", 0, 7, w -> w == 9 ? BAD : Due.told(text).see(0, 0, w));
            for (int w = -1; w <= 10; w++) {
                boolean told = w >= 0 && w <= 7 || w == 9;
                edge.is("w " + w, told ? 1 : BAD, Due.told(text).see(0, 0, w));
            }
        }
        // What there is not fits nothing; none fits who WANTS none.
        UpperSteps x = Due.told("guest 9 6;");
        x.see(0, 0, 7);
        edge.is("BOOK 7 of none", 0, x.kinds(0));
        x.forget(0);
        x.see(0, 0, 9);
        edge.is("none of none", 15, x.kinds(0));
        edge.refused("see(0, 0, 8)", BAD, y -> y.see(0, 0, 8));
        edge.refused("see(0, 0, 10)", BAD, y -> y.see(0, 0, 10));
        edge.refused("see(0, 0, NONE)", BAD, y -> y.see(0, 0, NONE));
    }

    private static void p27HowMany() {
        edge.test(27, "how many are.");
        UpperSteps x = Due.told("guest 9 1;");
        for (int i = 1; i <= 6; i++) {
            edge.is("so many", i, x.see(3, 0, 9));
            edge.is("count", i, x.count(0));
        }
    }

    private static void p27Full() {
        edge.test(27, "FULL.");
        UpperSteps x = sixSeen();
        edge.is("the 7th", FULL, x.see(0, 0, 9));
        edge.is("BAD n is ahead", BAD, x.see(21, 0, 9));
        edge.is("BAD READER is ahead", BAD, x.see(0, 1, 9));
        edge.is("BAD BOOK is ahead", BAD, x.see(0, 0, 8));
        edge.is("six", 6, x.forget(5));
        edge.is("a place again", 6, x.see(5, 0, 9));
        edge.is("none again", FULL, x.see(5, 0, 9));
        edge.is("all six are reckoned", 9, x.kinds(0));
        x.forget(5);
        x.see(6, 0, 0);
        edge.is("the sixth, too", 0, x.kinds(0));
        edge.refused("the 7th", FULL, SeenEdgeTest::sixSeen, y -> y.see(0, 0, 9));
    }

    private static void p28Forget() {
        edge.test(28, "SEEN are the first n alone: how many there were.");
        edge.is("none of none", 0, new UpperSteps().forget(0));
        UpperSteps x = sixSeen();
        edge.is("all", 6, x.forget(6));
        edge.is("all stay", 6, x.count(0));
        edge.is("but the last", 6, x.forget(5));
        edge.is("five", 5, x.forget(1));
        edge.is("one", 1, x.count(0));
        x.see(0, 0, 9);
        edge.is("not both", 0, x.kinds(0));
        edge.is("two", 2, x.forget(1));
        edge.is("the first stays", 15, x.kinds(0));
        x.alter(0, 1, 9);
        edge.is("it is the first", 0, x.kinds(0));
        edge.is("the last", 1, x.forget(0));
        edge.is("nothing is SEEN", 15, x.kinds(0));
    }

    private static void p28Bad() {
        edge.test(28, "BAD.");
        edge.bounds("forget of none", 0, 0, n -> new UpperSteps().forget(n));
        edge.bounds("forget of three", 0, 3, n -> Edge.lived().forget(n));
        edge.bounds("forget of six", 0, 6, n -> sixSeen().forget(n));
        edge.refused("forget(4) of three", BAD, y -> y.forget(4));
        edge.refused("forget(-1)", BAD, y -> y.forget(-1));
    }

    // ---- kinds, heights

    private static void p29Kinds() {
        edge.test(29, "KINDS of a READER (bits) by which,", "all is as SEEN.");
        UpperSteps x = Due.told("book 0 9 9;guest 0 1;");
        edge.is("nothing SEEN", 15, x.kinds(0));
        x.see(1, 0, 9);
        // DIZZY by it: guest 9, nephew 13, lord 18, maid 4.
        int[][] due = {{3, 0}, {4, 8}, {8, 8}, {9, 9}, {12, 9}, {13, 11}, {17, 11}, {18, 15}, {99, 15}};
        for (int[] row : due) {
            x.alter(0, 2, row[0]);
            edge.is("who BEARS " + row[0], row[1], x.kinds(0));
        }
        x.forget(0);
        x.see(1, 0, 0);
        for (int[] row : due) {
            x.alter(0, 2, row[0]);
            edge.is("who BEARS but " + row[0], 15 - row[1], x.kinds(0));
        }
        x.see(1, 0, 9);
        edge.is("what can not be", 0, x.kinds(0));
        edge.is("KIND stays", 0, x.reader(0, 0));
    }

    private static void p29AllElseAsItIs() {
        edge.test(29, "all else as it is,");
        UpperSteps x = Due.told("book 0 6 9;guest 0 6;lord 0 6;");
        x.see(1, 1, 9);
        edge.is("the other is a lord, and has VERTIGO", 0, x.kinds(0));
        edge.is("he may be another", 9, x.kinds(1));
        x.alter(1, 0, 3);
        edge.is("the other is a maid", 15, x.kinds(0));
        x.forget(0);
        for (int i = 0; i < 6; i++) {
            x.see(20, 1, 9);
        }
        edge.is("behind 20 DAYS", 9, x.kinds(1));
    }

    private static void p29Bad() {
        edge.test(29, "BAD.");
        edge.bounds("kinds", 0, 2, r -> Edge.lived().kinds(r));
        edge.bounds("kinds of four", 0, 3, r -> Due.told("guest 9 1;".repeat(4)).kinds(r));
        edge.is("nobody", BAD, Due.told("book 0 0 9;").kinds(0));
        edge.refused("kinds(3)", BAD, y -> y.kinds(3));
    }

    private static void p30Heights() {
        edge.test(30, "HEIGHTS of a BOOK (bits) by which,", "all is as SEEN.");
        UpperSteps x = Due.told("book 0 5 9;guest 0 1;");
        edge.is("nothing SEEN", 1023, x.heights(0));
        x.see(1, 0, 9);
        for (int bears = 1; bears <= 10; bears++) {
            x.alter(0, 2, bears);
            edge.is("who BEARS " + bears, (1 << Math.min(9, bears) + 1) - 1, x.heights(0));
        }
        x.forget(0);
        x.see(1, 0, 0);
        for (int bears = 1; bears <= 10; bears++) {
            x.alter(0, 2, bears);
            edge.is("who BEARS but " + bears, 1024 - (1 << Math.min(9, bears) + 1), x.heights(0));
        }
        edge.is("HEIGHT stays", 5, x.book(0, 1));
        // HEIGHT 0 alone: he reads on in that DAY.
        UpperSteps y = Due.told("book 0 5 1;book 0 5 9;guest 0 5;");
        y.see(1, 0, 9);
        edge.is("0 alone", 1, y.heights(1));
        edge.is("0 alone of the first, too", 1, y.heights(0));
    }

    private static void p30AllElseAsItIs() {
        edge.test(30, "all else as it is,");
        UpperSteps x = Due.told("book 0 6 9;book 0 9 9;guest 0 6;guest 1 8;");
        x.see(1, 1, 9);
        edge.is("the other is too high", 0, x.heights(0));
        edge.is("it may be lower", 511, x.heights(1));
        x.shelve(1, 1, 8);
        edge.is("the other is not", 1023, x.heights(0));
        x.see(20, 0, 0);
        edge.is("behind 20 DAYS", 1024 - 128, x.heights(0));
    }

    private static void p30Bad() {
        edge.test(30, "BAD.");
        edge.bounds("heights", 0, 2, b -> Edge.lived().heights(b));
        edge.bounds("heights of eight", 0, 7, b -> Due.told(EIGHT).heights(b));
        edge.is("no BOOKS", BAD, Due.told("guest 9 1;").heights(0));
        edge.refused("heights(3)", BAD, y -> y.heights(3));
    }

    // ---- ask

    private static void asks(UpperSteps x, int b, int whom, int left) {
        edge.is("ask(" + b + ", 0)", whom, x.ask(b, 0));
        edge.is("ask(" + b + ", 1)", left, x.ask(b, 1));
    }

    private static void p31Days() {
        edge.test(31, "Behind how many DAYS (0 to 20),");
        // A BOOK a DAY: behind 7 DAYS he has the last only at HEIGHT 0, behind 8 at any but 9.
        UpperSteps x = Due.told(EIGHT + "guest 0 8;");
        asks(x, 7, 70, 9);
        x.see(7, 0, 7);
        edge.is("0 is out", 1022, x.heights(7));
        asks(x, 7, 80, 8);
        x.see(8, 0, 9);
        edge.is("9 is out", 510, x.heights(7));
        asks(x, 7, NONE, NONE);
        asks(Due.told("book 0 5 9;guest 0 4;"), 0, 10, 5);
    }

    private static void p31Reader() {
        edge.test(31, "of which READER to ask what he WANTS,");
        asks(Due.told("book 0 5 9;guest 9 1;guest 9 1;guest 9 1;guest 0 4;"), 0, 13, 5);
        asks(Due.told("book 0 5 9;guest 0 4;guest 9 1;guest 9 1;guest 9 1;"), 0, 10, 5);
        // Three answers: none (HEIGHTS 0 to 2), the last (3, 4), the second (5 to 9).
        asks(Due.told("book 0 5 1;book 0 5 2;book 0 2 9;guest 0 9;"), 0, 10, 5);
    }

    private static void p31FewestLeft() {
        edge.test(31, "so that of heights() of a BOOK fewest are left at the worst, fewer than now:");
        UpperSteps x = Due.told("book 0 5 9;guest 0 1;guest 0 2;guest 0 4;guest 0 7;");
        edge.is("ten now", 1023, x.heights(0));
        // At the worst: 8 by the first, 7, 5 and 8 by the others.
        asks(x, 0, 12, 5);
        x.see(1, 2, 9);
        edge.is("five then", 31, x.heights(0));
        // Then 3 by the first and by the second.
        asks(x, 0, 10, 3);
        x.see(1, 1, 9);
        asks(x, 0, 10, 2);
        x.see(1, 0, 9);
        edge.is("two then", 3, x.heights(0));
        asks(x, 0, NONE, NONE);
        // By one who tells two from one another one is left.
        UpperSteps y = Due.told("book 0 5 9;lord 0 1;guest 0 1;");
        y.see(1, 1, 9);
        edge.is("two", 3, y.heights(0));
        asks(y, 0, 10, 1);
        y.see(1, 0, 0);
        edge.is("one", 2, y.heights(0));
        asks(y, 0, NONE, NONE);
    }

    private static void p31OfSeveral() {
        edge.test(31, "10 times the DAYS and who, of several the least (what 0),");
        asks(Due.told("book 0 5 9;guest 0 4;guest 0 4;guest 0 4;guest 0 4;"), 0, 10, 5);
        asks(Due.told("book 0 5 9;guest 9 4;guest 0 5;guest 0 4;guest 0 4;"), 0, 12, 5);
        // Asked of READER 3 behind one DAY as well as of READER 0 behind two.
        asks(Due.told("book 0 5 9;book 0 4 0;guest 1 4;guest 9 1;guest 9 1;guest 0 4;"), 0, 13, 5);
    }

    private static void p31HowMany() {
        edge.test(31, "how many these are (1).");
        UpperSteps x = Due.told("book 0 5 9;guest 0 1;");
        for (int bears = 1; bears <= 9; bears++) {
            x.alter(0, 2, bears);
            int above = 9 - bears;
            edge.is("who BEARS " + bears, above == 0 ? NONE : Math.max(above, bears + 1), x.ask(0, 1));
        }
        x.alter(0, 2, 4);
        for (int i = 0; i < 6; i++) {
            x.see(0, 0, 0);
        }
        edge.is("with no place to see more", 5, x.ask(0, 1));
    }

    private static void p31Bad() {
        edge.test(31, "BAD;");
        for (int what = 0; what < 2; what++) {
            int asked = what;
            edge.bounds("BOOK for " + what, 0, 2, b -> Edge.lived().ask(b, asked));
        }
        edge.bounds("what", 0, 1, what -> Edge.lived().ask(0, what));
        edge.is("no BOOKS", BAD, Due.told("guest 9 1;").ask(0, 0));
        edge.is("BAD is ahead of NONE", BAD, Due.told("book 0 0 9;").ask(0, 2));
        edge.refused("ask(3, 0)", BAD, y -> y.ask(3, 0));
        edge.refused("ask(0, 2)", BAD, y -> y.ask(0, 2));
    }

    private static void p31None() {
        edge.test(31, "NONE: none.");
        asks(Due.told("book 0 0 9;"), 0, NONE, NONE);
        asks(Due.told("book 0 0 9;guest 9 1;"), 0, NONE, NONE);
        asks(Due.told("book 0 0 9;guest 0 9;"), 0, NONE, NONE);
        asks(Due.told("book 0 0 9;guest 0 8;"), 0, 10, 9);
        UpperSteps x = Due.told("book 0 0 9;guest 0 8;");
        x.see(0, 0, 9);
        edge.is("nothing is left", 0, x.heights(0));
        asks(x, 0, NONE, NONE);
    }

    // ---- drift

    /** The seed that becomes what is told. */
    private static int seedFor(int next) {
        int inverse = 1103515245;
        for (int i = 0; i < 5; i++) {
            inverse *= 2 - 1103515245 * inverse;
        }
        return (next - 12345) * inverse;
    }

    private static int seedToGet(int got) {
        return seedFor(got << 16);
    }

    private static void drifts(UpperSteps x, int seed, int books, int minutes) {
        edge.is("drift(" + seed + ", 1, 0)", books, x.drift(seed, 1, 0));
        edge.is("drift(" + seed + ", 1, 1)", minutes, x.drift(seed, 1, 1));
    }

    private static void p32ByItself() {
        edge.test(32, "By itself,");
        for (int what = 0; what < 2; what++) {
            UpperSteps x = Edge.lived();
            edge.is("it answers", 1, x.drift(7, 60, what) > 0 ? 1 : 0);
            edge.is("nothing is changed", 1, Edge.allOf(x).equals(Edge.allOf(Edge.lived())) ? 1 : 0);
        }
        edge.is("beyond DAY 999", 60, Edge.dayAt(999).drift(0, 60, 0));
        UpperSteps late = Edge.clockAt(9999);
        edge.is("beyond CLOCK 9999", 1, late.drift(0, 60, 1) > 43 ? 1 : 0);
        edge.is("CLOCK stays", 9999, late.rule(3));
    }

    private static void p32Days() {
        edge.test(32, "n DAYS (1 to 60) by a seed:");
        UpperSteps x = Due.told("book 0 0 9;guest 9 1;");
        for (int n = 1; n <= 60; n++) {
            edge.is("a BOOK a DAY, " + n, n, x.drift(5, n, 0));
        }
        edge.bounds("n", 1, 60, n -> Edge.lived().drift(7, n, 0));
        edge.bounds("n for minutes", 1, 60, n -> Edge.lived().drift(7, n, 1));
    }

    private static void p32Seed() {
        edge.test(32, "ahead of each the seed becomes seed times 1103515245 and 12345; bits 16 to 30 of it are got:");
        // One reader, BOOKS at HEIGHTS 0 to 7: minutes are the BAY got and twice the BOOK got.
        UpperSteps x = Due.told(heights(8) + "guest 9 9;");
        // Bits 0 to 15 and 31 are not got.
        for (int other : new int[] {0, 1, 65535, 1 << 31, 1 << 31 | 65535}) {
            drifts(x, seedFor(other), 1, 0);
            drifts(x, seedFor(1 << 19 | other), 1, 2);
            drifts(x, seedFor(1 << 22 | other), 1, 1);
            drifts(x, seedFor(32767 << 16 | other), 1, 14 + 7);
            drifts(x, seedFor(1 << 30 | other), 1, 0);
        }
        // What seeds become that wrap around: -1 and the least, the most.
        int[][] due = {{0, 12345}, {1, 1103527590}, {-1, -1103502900}, {LEAST, LEAST + 12345}, {MOST, 1043980748}};
        for (int[] row : due) {
            int got = row[1] >> 16 & 32767;
            drifts(x, row[0], 1, got / 64 % 8 + 2 * (got / 8 % 8));
        }
        // Ahead of each: the second DAY's seed is that of the first once more.
        int second = 1103515245 * seedFor(8 << 16) + 12345;
        int third = second * 1103515245 + 12345 >> 16 & 32767;
        edge.is("two DAYS", 2 + third / 64 % 8 + 2 * (third / 8 % 8), x.drift(seedFor(8 << 16), 2, 1));
    }

    private static String heights(int books) {
        StringBuilder text = new StringBuilder();
        for (int b = 0; b < books; b++) {
            text.append("book 0 ").append(b).append(" 9;");
        }
        return text.toString();
    }

    private static void p32Reader() {
        edge.test(32, "READER got modulo READERS");
        // At HEIGHT 5 and from BAY 0: guest 10, nephew 20, lord 6, maid 12 minutes.
        String[] kinds = {"guest 9 9;", "nephew 9 9;", "lord 9 99;", "maid 9 9;"};
        int[] minutes = {10, 20, 6, 12};
        StringBuilder text = new StringBuilder("book 0 5 9;");
        for (int readers = 1; readers <= 4; readers++) {
            text.append(kinds[readers - 1]);
            UpperSteps x = Due.told(text.toString());
            for (int got : new int[] {0, 1, 2, 3, 4, 5, 6, 7, 8, 62, 63, 512, 32256, 32257, 32258, 32259}) {
                drifts(x, seedToGet(got), 1, minutes[got % readers]);
            }
        }
    }

    private static void p32Book() {
        edge.test(32, "WANTS BOOK got by 8 (down) modulo BOOKS,");
        for (int books = 1; books <= 8; books++) {
            UpperSteps x = Due.told(heights(books) + "guest 9 9;");
            for (int got : new int[] {0, 7, 8, 15, 16, 55, 56, 63, 512, 519, 520, 32256, 32263, 32264}) {
                drifts(x, seedToGet(got), 1, 2 * (got / 8 % books));
            }
        }
        // In place of what he WANTS.
        UpperSteps y = Due.told("book 0 1 9;book 0 2 9;guest 0 9;");
        drifts(y, seedToGet(8), 1, 4);
        y.alter(0, 1, 1);
        drifts(y, seedToGet(0), 1, 2);
    }

    private static void p32HadNothing() {
        edge.test(32, "and HAD nothing;");
        UpperSteps x = Due.told("book 0 1 1;book 0 1 0;guest 9 9;guest 0 9;");
        x.fetch(0, 0);
        x.fetch(1, 0);
        // READER 0 HAD nothing: both BOOKS; the other HAD what he WANTS.
        drifts(x, seedToGet(0), 2, 4);
        x.forgets(1);
        drifts(x, seedToGet(0), 4, 8);
        edge.is("he HAD it really", 1, x.reader(0, 3));
    }

    private static void p32Bay() {
        edge.test(32, "THE STEPS are at BAY got by 64 (down) modulo 8:");
        UpperSteps x = Due.told("book 0 0 9;guest 9 9;steps 5;");
        for (int got : new int[] {0, 63, 64, 127, 128, 447, 448, 511, 512, 575, 576, 32704, 32767}) {
            drifts(x, seedToGet(got), 1, got / 64 % 8);
        }
    }

    private static void p32Sums() {
        edge.test(32, "BOOKS that are FETCHED (what 0), minutes (1).");
        UpperSteps x = Due.told("book 0 9 1;book 7 9 9;guest 9 8;nephew 9 26;");
        drifts(x, seedToGet(0), 0, 0);
        drifts(x, seedToGet(1), 2, 36 + 43);
        drifts(x, seedToGet(9), 1, 43);
        x.fetch(0, 0);
        edge.is("no minutes but these", 0, x.drift(seedToGet(0), 1, 1));
    }

    private static void p32Bad() {
        edge.test(32, "BAD;");
        edge.bounds("what", 0, 1, what -> Edge.lived().drift(7, 1, what));
        edge.is("no DAY", BAD, Edge.lived().drift(7, 0, 0));
        for (int seed : new int[] {LEAST, -1, 0, MOST}) {
            edge.is("any seed", 1, Edge.lived().drift(seed, 1, 0) >= 0 ? 1 : 0);
        }
        edge.is("BAD n is ahead of STATE", BAD, new UpperSteps().drift(0, 61, 0));
        edge.is("BAD what is ahead of STATE", BAD, new UpperSteps().drift(0, 1, -1));
        edge.refused("drift(0, 0, 0)", BAD, y -> y.drift(0, 0, 0));
        edge.refused("drift(0, 61, 0)", BAD, y -> y.drift(0, 61, 0));
    }

    private static void p32State() {
        edge.test(32, "STATE: there are no BOOKS or no READERS.");
        for (int what = 0; what < 2; what++) {
            edge.is("neither", STATE, new UpperSteps().drift(0, 1, what));
            edge.is("no BOOKS", STATE, Due.told("guest 9 1;").drift(0, 60, what));
            edge.is("no READERS", STATE, Due.told("book 0 0 9;").drift(0, 60, what));
            edge.is("one of each", 1 - what, Due.told("book 0 0 9;guest 9 1;").drift(0, 1, what));
        }
    }

    // ---- keep, back

    private static void p33Keep() {
        edge.test(33, "IMAGE k (0, 1) is BOOKS, READERS, THE STEPS, CLOCK, DAY, what was SEEN:");
        for (int k = 0; k < 2; k++) {
            UpperSteps x = Edge.lived();
            x.keep(k);
            change(x);
            x.back(k);
            UpperSteps like = Edge.lived();
            like.keep(k);
            edge.is("all of IMAGE " + k, 1, Edge.allOf(x).equals(Edge.allOf(like)) ? 1 : 0);
        }
        UpperSteps nothing = new UpperSteps();
        edge.is("of nothing", 0, nothing.keep(0));
        nothing.days(3);
        nothing.roll(7);
        edge.is("back to nothing", 0, nothing.back(0));
        edge.is("DAY", 0, nothing.rule(4));
        edge.is("THE STEPS", 0, nothing.rule(2));
        edge.is("BOOKS", 0, nothing.rule(0));
        UpperSteps full = sixSeen();
        full.keep(1);
        full.forget(0);
        full.back(1);
        edge.is("all that is SEEN", 6, full.count(0));
        edge.is("FULL as it was", FULL, full.see(0, 0, 9));
    }

    private static void change(UpperSteps x) {
        for (int b = 0; b < 3; b++) {
            x.shelve(b, 0, 7 - x.book(b, 0));
            x.shelve(b, 1, 9 - x.book(b, 1));
            x.shelve(b, 2, b);
        }
        for (int r = 0; r < 3; r++) {
            x.alter(r, 0, 3 - x.reader(r, 0));
            x.alter(r, 1, r);
            x.alter(r, 2, 98);
            x.forgets(r);
            x.fetch(r, 2 - r);
        }
        x.days(3);
        x.roll(2);
        x.forget(0);
        x.see(7, 2, 1);
    }

    private static void p33ThereWasOne() {
        edge.test(33, "whether there was one (1, 0).");
        UpperSteps x = Due.told("book 0 1 9;guest 0 1;");
        edge.is("none yet", 0, x.keep(0));
        edge.is("none of the other", 0, x.keep(1));
        edge.is("one", 1, x.keep(0));
        edge.is("one still", 1, x.keep(0));
        edge.is("one of the other", 1, x.keep(1));
        x.back(0);
        edge.is("one behind back()", 1, x.keep(0));
        Due.tell(x, "X");
        edge.is("one behind a text refused", 1, x.keep(0));
        Due.tell(x, "");
        edge.is("none behind a text taken", 0, x.keep(0));
    }

    private static void p33Bad() {
        edge.test(33, "BAD.");
        edge.bounds("keep", 0, 1, k -> Edge.lived().keep(k));
        edge.bounds("keep of a new object", 0, 1, k -> new UpperSteps().keep(k));
        for (int k : new int[] {-1, 2, LEAST, MOST}) {
            edge.refused("keep(" + k + ")", BAD, y -> y.keep(k));
        }
    }

    private static void p34Back() {
        edge.test(34, "All is as IMAGE k: CLOCK.");
        UpperSteps x = Due.told("book 0 5 9;guest 0 9;");
        x.keep(0);
        x.days(1);
        x.keep(1);
        x.fetch(0, 0);
        edge.is("CLOCK 0", 0, x.back(0));
        edge.is("DAY 0", 0, x.rule(4));
        edge.is("he WANTS it", 0, x.reader(0, 1));
        edge.is("he HAD nothing", 0, x.reader(0, 3));
        edge.is("CLOCK 10", 10, x.back(1));
        edge.is("DAY 1", 1, x.rule(4));
        edge.is("he HAD it", 1, x.reader(0, 3));
        edge.is("as often as one likes", 10, x.back(1));
        x.days(5);
        edge.is("the IMAGE does not go on", 1, x.back(1) == 10 ? x.rule(4) : 0);
        UpperSteps later = Edge.clockAt(9999);
        later.keep(1);
        later.alter(0, 1, 9);
        edge.is("CLOCK 9999", 9999, later.back(1));
        // THE TAPE, SHEETS, FAULTS and IMAGES are not of the IMAGE.
        UpperSteps y = Edge.lived();
        y.back(0);
        edge.is("THE TAPE", 8, y.count(2));
        edge.is("SHEET 0", 6, y.count(3));
        edge.is("IMAGES", 2, y.count(1));
        edge.is("fault()", 2, y.fault());
        edge.is("torn()", 1, y.torn());
    }

    private static void p34Bad() {
        edge.test(34, "BAD;");
        edge.bounds("back", 0, 1, k -> Edge.lived().back(k));
        edge.is("BAD is ahead of STATE", BAD, new UpperSteps().back(2));
        edge.is("BAD below is ahead of STATE", BAD, new UpperSteps().back(-1));
        edge.refused("back(2)", BAD, y -> y.back(2));
        edge.refused("back(-1)", BAD, y -> y.back(-1));
    }

    private static void p34State() {
        edge.test(34, "STATE: there is none.");
        for (int k = 0; k < 2; k++) {
            UpperSteps x = Due.told("book 0 1 9;guest 0 1;");
            edge.is("none", STATE, x.back(k));
            x.keep(1 - k);
            edge.is("none but the other", STATE, x.back(k));
            edge.is("the other", 0, x.back(1 - k));
            x.keep(k);
            edge.is("there is one", 0, x.back(k));
            Due.tell(x, "");
            edge.is("it is gone", STATE, x.back(k));
        }
        edge.refused("back(0) of none", STATE, SeenEdgeTest::sixSeen, y -> y.back(0));
    }
}
