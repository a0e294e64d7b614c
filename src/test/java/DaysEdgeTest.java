/** Boundary cases of the promises 9 to 18: what is changed, and days. */
public final class DaysEdgeTest {
    private static final int BAD = Edge.BAD, STATE = Edge.STATE, FULL = Edge.FULL, NONE = Edge.NONE;
    private static final int LEAST = Edge.LEAST, MOST = Edge.MOST;
    private static final String EIGHT = "book 0 9 1;book 0 9 2;book 0 9 3;book 0 9 4;book 0 9 5;book 0 9 6;book 0 9 7;"
            + "book 0 9 9;";
    private static final Edge edge = new Edge();

    public static void main(String[] args) {
        p09BayAndHeight();
        p09Leads();
        p09WhatItWas();
        p09Bad();
        p10Kind();
        p10Wants();
        p10Bears();
        p10WhatItWas();
        p10Bad();
        p11Roll();
        p11Bad();
        p12Forgets();
        p12Bad();
        p13OutOfADay();
        p13Bad();
        p13State();
        p13Full();
        p14Days();
        p14FullByDay();
        p14FullByClock();
        p15Fetched();
        p15Minutes();
        p15Vertigos();
        p15AllDone();
        p15Bad();
        p16Wants();
        p16Had();
        p16Bad();
        p17Done();
        p17None();
        p18Vertigo();
        p18None();
        edge.finish("DaysEdgeTest", 9, 18);
    }

    // ---- shelve

    private static void p09BayAndHeight() {
        edge.test(9, "BAY, HEIGHT,");
        UpperSteps x = Due.told(Edge.THREE);
        edge.bounds("BAY", 0, 7, v -> x.shelve(0, 0, v));
        edge.is("BAY is 7", 7, x.book(0, 0));
        edge.bounds("HEIGHT", 0, 9, v -> x.shelve(0, 1, v));
        edge.is("HEIGHT is 9", 9, x.book(0, 1));
        edge.is("to 0", 9, x.shelve(0, 1, 0));
        edge.is("HEIGHT is 0", 0, x.book(0, 1));
        edge.is("LEADS stays", 1, x.book(0, 2));
        edge.is("the next stays", 6, x.book(1, 1));
        for (int v : new int[] {-1, 8, 256, LEAST, MOST}) {
            edge.refused("BAY " + v, BAD, y -> y.shelve(1, 0, v));
        }
        for (int v : new int[] {-1, 10, 256, LEAST, MOST}) {
            edge.refused("HEIGHT " + v, BAD, y -> y.shelve(1, 1, v));
        }
    }

    private static void p09Leads() {
        edge.test(9, "to which it LEADS (what 0 to 2; 9: none) of a BOOK becomes v");
        UpperSteps x = Due.told(Edge.THREE);
        edge.is("to the first, itself", 1, x.shelve(0, 2, 0));
        edge.is("to the last", 0, x.shelve(0, 2, 2));
        edge.is("is 2", 2, x.book(0, 2));
        edge.is("to none", 2, x.shelve(0, 2, 9));
        edge.is("is none", NONE, x.book(0, 2));
        for (int v : new int[] {-4, -1, 3, 7, 8, 10, LEAST, MOST}) {
            edge.refused("LEADS to " + v, BAD, y -> y.shelve(0, 2, v));
        }
        UpperSteps eight = Due.told(EIGHT);
        edge.is("to 7", 1, eight.shelve(0, 2, 7));
        edge.is("to 8 of eight", BAD, eight.shelve(0, 2, 8));
        edge.is("to none of eight", 7, eight.shelve(0, 2, 9));
        edge.is("to 10 of eight", BAD, eight.shelve(0, 2, 10));
        edge.is("7 is the last BOOK", NONE, eight.shelve(7, 2, 0));
        edge.is("there is no 8", BAD, eight.shelve(8, 2, 0));
    }

    private static void p09WhatItWas() {
        edge.test(9, "what it was (NONE: none).");
        UpperSteps x = Due.told("book 0 0 0;book 7 9 9;");
        edge.is("BAY 0", 0, x.shelve(0, 0, 5));
        edge.is("BAY 7", 7, x.shelve(1, 0, 7));
        edge.is("BAY 7 to itself", 7, x.shelve(1, 0, 0));
        edge.is("HEIGHT 0", 0, x.shelve(0, 1, 1));
        edge.is("HEIGHT 9", 9, x.shelve(1, 1, 0));
        edge.is("LEADS to 0", 0, x.shelve(0, 2, 1));
        edge.is("LEADS to none", NONE, x.shelve(1, 2, 9));
        edge.is("LEADS to none still", NONE, x.shelve(1, 2, 0));
        edge.is("LEADS to 0 then", 0, x.shelve(1, 2, 9));
    }

    private static void p09Bad() {
        edge.test(9, "BAD.");
        for (int what = 0; what < 3; what++) {
            int asked = what;
            edge.bounds("BOOK for " + what, 0, 2, b -> Edge.lived().shelve(b, asked, 0));
        }
        edge.bounds("what", 0, 2, what -> Edge.lived().shelve(0, what, 0));
        edge.is("no BOOKS", BAD, Due.told("guest 9 1;").shelve(0, 0, 0));
        edge.refused("no such BOOK", BAD, y -> y.shelve(3, 1, 0));
        edge.refused("what 3", BAD, y -> y.shelve(0, 3, 0));
        edge.refused("what -1", BAD, y -> y.shelve(0, -1, 0));
    }

    // ---- alter

    private static void p10Kind() {
        edge.test(10, "KIND,");
        UpperSteps x = Due.told(Edge.THREE);
        edge.bounds("KIND", 0, 3, v -> x.alter(0, 0, v));
        edge.is("a maid", 3, x.reader(0, 0));
        edge.is("the next is a maid still", 3, x.reader(1, 0));
        for (int v : new int[] {-1, 4, 9, LEAST, MOST}) {
            edge.refused("KIND " + v, BAD, y -> y.alter(0, 0, v));
        }
    }

    private static void p10Wants() {
        edge.test(10, "WANTS (9: none),");
        UpperSteps x = Due.told(Edge.THREE);
        edge.is("the last", 0, x.alter(0, 1, 2));
        edge.is("is 2", 2, x.reader(0, 1));
        edge.is("none", 2, x.alter(0, 1, 9));
        edge.is("is none", NONE, x.reader(0, 1));
        edge.is("the first", NONE, x.alter(0, 1, 0));
        for (int v : new int[] {-4, -1, 3, 7, 8, 10, LEAST, MOST}) {
            edge.refused("WANTS " + v, BAD, y -> y.alter(0, 1, v));
        }
        UpperSteps eight = Due.told(EIGHT + "guest 9 1;");
        edge.is("7 of eight", NONE, eight.alter(0, 1, 7));
        edge.is("8 of eight", BAD, eight.alter(0, 1, 8));
        edge.is("10 of eight", BAD, eight.alter(0, 1, 10));
        edge.is("none of eight", 7, eight.alter(0, 1, 9));
        UpperSteps none = Due.told("guest 9 1;");
        edge.is("0 of none", BAD, none.alter(0, 1, 0));
        edge.is("none of none", NONE, none.alter(0, 1, 9));
    }

    private static void p10Bears() {
        edge.test(10, "BEARS (what 0 to 2) of a READER becomes v");
        UpperSteps x = Due.told(Edge.THREE);
        edge.bounds("BEARS", 1, 99, v -> x.alter(0, 2, v));
        edge.is("is 99", 99, x.alter(0, 2, 1));
        edge.is("is 1", 1, x.reader(0, 2));
        edge.is("the next stays", 9, x.reader(1, 2));
        for (int v : new int[] {-1, 0, 100, 256, LEAST, MOST}) {
            edge.refused("BEARS " + v, BAD, y -> y.alter(0, 2, v));
        }
    }

    private static void p10WhatItWas() {
        edge.test(10, "what it was (NONE: none).");
        UpperSteps x = Due.told("book 0 0 9;guest 9 1;maid 0 99;");
        edge.is("KIND 0", 0, x.alter(0, 0, 0));
        edge.is("KIND 3", 3, x.alter(1, 0, 2));
        edge.is("KIND 2", 2, x.alter(1, 0, 3));
        edge.is("WANTS none", NONE, x.alter(0, 1, 9));
        edge.is("WANTS none still", NONE, x.alter(0, 1, 0));
        edge.is("WANTS 0", 0, x.alter(0, 1, 9));
        edge.is("BEARS 1", 1, x.alter(0, 2, 2));
        edge.is("BEARS 99", 99, x.alter(1, 2, 1));
    }

    private static void p10Bad() {
        edge.test(10, "BAD.");
        for (int what = 0; what < 3; what++) {
            int asked = what;
            edge.bounds("READER for " + what, 0, 2, r -> Edge.lived().alter(r, asked, 1));
        }
        edge.bounds("what", 0, 2, what -> Edge.lived().alter(0, what, 1));
        edge.bounds("READER of four", 0, 3, r -> Due.told("maid 9 1;".repeat(4)).alter(r, 0, 0));
        edge.is("nobody", BAD, Due.told("book 0 0 9;").alter(0, 0, 0));
        edge.refused("no such READER", BAD, y -> y.alter(3, 2, 1));
        edge.refused("what 3", BAD, y -> y.alter(0, 3, 1));
        edge.refused("what -1", BAD, y -> y.alter(0, -1, 1));
    }

    // ---- roll, forgets

    private static void p11Roll() {
        edge.test(11, "THE STEPS are at a BAY: at which they were (no time goes).");
        UpperSteps x = Due.told("book 0 1 9;guest 0 1;");
        edge.is("from 0 to 7", 0, x.roll(7));
        edge.is("are at 7", 7, x.rule(2));
        edge.is("from 7 to 7", 7, x.roll(7));
        edge.is("from 7 to 0", 7, x.roll(0));
        edge.is("are at 0", 0, x.rule(2));
        edge.is("no time", 0, x.rule(3));
        UpperSteps late = Edge.clockAt(9999);
        edge.is("at CLOCK 9999", 0, late.roll(7));
        edge.is("no time then", 9999, late.rule(3));
        edge.is("without BOOKS", 0, new UpperSteps().roll(7));
    }

    private static void p11Bad() {
        edge.test(11, "BAD.");
        edge.bounds("roll", 0, 7, v -> Edge.lived().roll(v));
        for (int v : new int[] {-1, 8, 9, LEAST, MOST}) {
            edge.refused("roll to " + v, BAD, y -> y.roll(v));
        }
    }

    private static void p12Forgets() {
        edge.test(12, "A READER HAD nothing: how many he HAD.");
        UpperSteps x = Due.told(EIGHT + "guest 0 99;guest 0 99;");
        edge.is("none", 0, x.forgets(0));
        x.fetch(0, 7);
        edge.is("one", 1, x.forgets(0));
        edge.is("none then", 0, x.forgets(0));
        x.days(1);
        edge.is("all", 8, x.forgets(0));
        edge.is("had nothing", 0, x.reader(0, 3));
        edge.is("the other had all", 255, x.reader(1, 3));
        edge.is("he WANTS none still", NONE, x.reader(0, 1));
        edge.is("he may FETCH it again", 18, x.fetch(0, 0));
    }

    private static void p12Bad() {
        edge.test(12, "BAD.");
        edge.bounds("forgets", 0, 2, r -> Edge.lived().forgets(r));
        edge.is("nobody", BAD, new UpperSteps().forgets(0));
        edge.refused("forgets(3)", BAD, y -> y.forgets(3));
        edge.refused("forgets(-1)", BAD, y -> y.forgets(-1));
    }

    // ---- fetch

    private static void p13OutOfADay() {
        edge.test(13, "A READER FETCHES a BOOK (out of a DAY, however DIZZY, whatever he WANTS): minutes.");
        UpperSteps x = Due.told("book 0 9 1;book 0 0 9;book 7 9 9;lord 9 1;guest 1 1;");
        edge.is("however DIZZY", 10, x.fetch(0, 0));
        edge.is("and again", 17, x.fetch(0, 2));
        edge.is("he WANTS none still", NONE, x.reader(0, 1));
        edge.is("what he does not WANT", 18 + 7, x.fetch(1, 0));
        edge.is("he WANTS what he did", 1, x.reader(1, 1));
        edge.is("no minutes", 0, x.fetch(1, 1));
        edge.is("no DAY", 0, x.rule(4));
        edge.is("CLOCK", 52, x.rule(3));
    }

    private static void p13Bad() {
        edge.test(13, "BAD;");
        edge.bounds("READER", 0, 2, r -> Edge.lived().fetch(r, 0));
        edge.bounds("BOOK", 0, 2, b -> Edge.lived().fetch(1, b));
        edge.bounds("BOOK of eight", 0, 7, b -> Due.told(EIGHT + "guest 0 1;").fetch(0, b));
        edge.is("nothing there", BAD, new UpperSteps().fetch(0, 0));
        edge.is("no BOOK", BAD, Due.told("guest 9 1;").fetch(0, 0));
        edge.is("nobody", BAD, Due.told("book 0 0 9;").fetch(0, 0));
        edge.is("what had no bit", BAD, Edge.lived().fetch(0, 32));
        edge.refused("no such READER", BAD, y -> y.fetch(3, 0));
        edge.refused("no such BOOK", BAD, y -> y.fetch(0, 3));
    }

    private static void p13State() {
        edge.test(13, "STATE: he HAD it;");
        UpperSteps x = Due.told("book 0 1 9;book 1 1 9;guest 0 1;guest 0 1;");
        edge.is("he had it not", 2, x.fetch(0, 0));
        edge.is("he had it", STATE, x.fetch(0, 0));
        edge.is("he had not the other", 3, x.fetch(0, 1));
        edge.is("the other had it not", 3, x.fetch(1, 0));
        x.forgets(0);
        edge.is("he had it not any more", 2, x.fetch(0, 0));
        edge.refused("fetch of what he HAD", STATE, y -> y.fetch(0, 1));
    }

    private static void p13Full() {
        edge.test(13, "FULL: CLOCK would be above 9999.");
        // 36 minutes for BOOK 0, 43 for BOOK 1.
        UpperSteps x = Edge.clockAt(9963);
        edge.is("10006", FULL, x.fetch(1, 1));
        edge.is("9999", 36, x.fetch(1, 0));
        edge.is("CLOCK", 9999, x.rule(3));
        edge.is("above it", FULL, x.fetch(2, 0));
        x.shelve(0, 1, 0);
        edge.is("no minutes at 9999", 0, x.fetch(2, 0));
        edge.is("one minute less", 36, Edge.clockAt(9962).fetch(1, 0));
        edge.refused("10000", FULL, () -> Edge.clockAt(9964), y -> y.fetch(1, 0));
        edge.refused("10000 by rolling", FULL, () -> Edge.clockAt(9957), y -> y.fetch(1, 1));
        edge.is("9999 by rolling", 43, Edge.clockAt(9956).fetch(1, 1));
    }

    // ---- days

    private static void p14Days() {
        edge.test(14, "n DAYS (0 to 30): how many BOOKS are FETCHED. BAD;");
        UpperSteps x = Due.told(EIGHT + "guest 0 9;");
        edge.is("no DAY", 0, x.days(0));
        edge.is("DAY 0", 0, x.rule(4));
        edge.is("nothing had", 0, x.reader(0, 3));
        edge.is("one", 1, x.days(1));
        edge.is("thirty", 7, x.days(30));
        edge.is("DAY 31", 31, x.rule(4));
        edge.is("none left", 0, x.days(30));
        edge.bounds("days", 0, 30, n -> Edge.lived().days(n));
        for (int n : new int[] {-1, 31, LEAST, MOST}) {
            edge.refused("days " + n, BAD, y -> y.days(n));
        }
    }

    private static void p14FullByDay() {
        edge.test(14, "FULL: DAY would be 1000 or more,");
        edge.is("to 999", 0, Edge.dayAt(970).days(29));
        edge.is("to 1000", FULL, Edge.dayAt(970).days(30));
        UpperSteps x = Edge.dayAt(998);
        edge.is("to 1000 from 998", FULL, x.days(2));
        edge.is("to 999 from 998", 0, x.days(1));
        edge.is("DAY 999", 999, x.rule(4));
        edge.is("to 1000 from 999", FULL, x.days(1));
        edge.is("to 1029", FULL, x.days(30));
        edge.is("to 999 from 999", 0, x.days(0));
        edge.is("BAD is ahead of FULL", BAD, x.days(31));
        edge.is("BAD is ahead, and no sum wraps", BAD, x.days(MOST));
        x.alter(0, 1, 0);
        edge.is("what is FETCHED matters not", FULL, x.days(1));
        edge.refused("days(1) at DAY 999", FULL, () -> wanting(Edge.dayAt(999)), y -> y.days(1));
        edge.refused("days(2) at DAY 998", FULL, () -> wanting(Edge.dayAt(998)), y -> y.days(2));
        edge.is("days(1) at DAY 998", 1, wanting(Edge.dayAt(998)).days(1));
    }

    private static UpperSteps wanting(UpperSteps x) {
        x.alter(0, 1, 0);
        return x;
    }

    /** READER 0 WANTS BOOK 0 (36 minutes), BEARS one a DAY; then BOOK 1 (43 minutes). */
    private static UpperSteps lateReader(int clock) {
        UpperSteps x = Edge.clockAt(clock);
        x.alter(0, 1, 0);
        x.alter(0, 2, 13);
        return x;
    }

    private static void p14FullByClock() {
        edge.test(14, "or CLOCK above 9999.");
        edge.is("9999", 1, lateReader(9963).days(1));
        edge.is("10000", FULL, lateReader(9964).days(1));
        edge.is("9999 by two DAYS", 2, lateReader(9920).days(2));
        edge.is("10000 by two DAYS", FULL, lateReader(9921).days(2));
        edge.is("the first of them alone", 1, lateReader(9921).days(1));
        edge.refused("days(1) to 10000", FULL, () -> lateReader(9964), y -> y.days(1));
        edge.refused("days(2) to 10000", FULL, () -> lateReader(9921), y -> y.days(2));
        edge.refused("days(30)", FULL, () -> lateReader(9921), y -> y.days(30));
        UpperSteps x = lateReader(9999);
        edge.is("above 9999", FULL, x.days(1));
        edge.is("no DAY at 9999", 0, x.days(0));
        edge.is("BAD is ahead", BAD, x.days(-1));
        x.alter(0, 1, 9);
        edge.is("no minutes at 9999", 0, x.days(1));
    }

    // ---- runs

    private static void p15Fetched() {
        edge.test(15, "BY DAYS, n of them (0 to 60): how many BOOKS are FETCHED (what 0),");
        UpperSteps x = Due.told(EIGHT + "guest 0 9;");
        for (int n = 0; n <= 9; n++) {
            edge.is("in " + n, Math.min(8, n), x.runs(n, 0));
        }
        edge.is("in 60", 8, x.runs(60, 0));
        edge.is("none is FETCHED really", 0, x.reader(0, 3));
        edge.is("nobody", 0, new UpperSteps().runs(60, 0));
    }

    private static void p15Minutes() {
        edge.test(15, "minutes (1),");
        UpperSteps x = Due.told(EIGHT + "guest 0 9;");
        for (int n = 0; n <= 9; n++) {
            edge.is("in " + n, 18 * Math.min(8, n), x.runs(n, 1));
        }
        edge.is("nobody", 0, new UpperSteps().runs(60, 1));
        UpperSteps late = Edge.clockAt(9990);
        late.alter(0, 1, 0);
        edge.is("of these DAYS alone, above 9999 too", 36, late.runs(1, 1) - late.runs(0, 1) - 43 * 6);
        edge.is("CLOCK stays", 9990, late.rule(3));
    }

    private static void p15Vertigos() {
        edge.test(15, "VERTIGOS (2),");
        UpperSteps x = Due.told(EIGHT + "guest 0 9;");
        for (int n = 0; n <= 9; n++) {
            edge.is("in " + n, Math.min(7, n), x.runs(n, 2));
        }
        UpperSteps y = Due.told("book 0 9 9;" + "guest 0 8;".repeat(4));
        edge.is("no DAY", 0, y.runs(0, 2));
        edge.is("each of four", 4, y.runs(1, 2));
        edge.is("each of four for 60 DAYS", 240, y.runs(60, 2));
    }

    private static void p15AllDone() {
        edge.test(15, "behind how many all are DONE first (3: from 0 on; NONE).");
        UpperSteps x = Due.told(EIGHT + "guest 0 9;guest 0 72;guest 9 1;");
        edge.is("in 0", NONE, x.runs(0, 3));
        edge.is("in 7", NONE, x.runs(7, 3));
        edge.is("in 8", 8, x.runs(8, 3));
        edge.is("in 60", 8, x.runs(60, 3));
        x.alter(0, 1, 9);
        edge.is("not all now", NONE, x.runs(0, 3));
        edge.is("in 1", 1, x.runs(1, 3));
        x.alter(1, 1, 9);
        edge.is("now, in 0", 0, x.runs(0, 3));
        edge.is("now, in 60", 0, x.runs(60, 3));
        x.alter(1, 1, 0);
        x.alter(1, 2, 8);
        edge.is("never", NONE, x.runs(60, 3));
        edge.is("nobody is DONE now", 0, new UpperSteps().runs(0, 3));
        edge.is("four", 1, Due.told("book 0 0 9;" + "lord 0 1;".repeat(4)).runs(60, 3));
    }

    private static void p15Bad() {
        edge.test(15, "BAD.");
        for (int what = 0; what < 4; what++) {
            int asked = what;
            edge.bounds("n for " + what, 0, 60, n -> Edge.lived().runs(n, asked));
        }
        edge.bounds("what", 0, 3, what -> Edge.lived().runs(1, what));
        edge.is("what 4 of nobody", BAD, new UpperSteps().runs(0, 4));
        edge.refused("runs(61, 0)", BAD, y -> y.runs(61, 0));
    }

    // ---- ahead, done, vertigo

    private static void p16Wants() {
        edge.test(16, "BY DAYS, n of them (0 to 60): what a READER WANTS then (what 0; NONE),");
        UpperSteps x = Due.told(EIGHT + "guest 9 1;guest 0 9;guest 0 8;");
        for (int n = 0; n <= 9; n++) {
            edge.is("behind " + n, n < 8 ? n : NONE, x.ahead(1, n, 0));
            edge.is("who has VERTIGO behind " + n, 0, x.ahead(2, n, 0));
            edge.is("who is DONE behind " + n, NONE, x.ahead(0, n, 0));
        }
        edge.is("behind 60", NONE, x.ahead(1, 60, 0));
        edge.is("VERTIGO behind 60", 0, x.ahead(2, 60, 0));
        edge.is("he WANTS the first really", 0, x.reader(1, 1));
    }

    private static void p16Had() {
        edge.test(16, "which he HAD (1; bits).");
        UpperSteps x = Due.told(EIGHT + "guest 9 1;guest 0 9;guest 0 8;");
        for (int n = 0; n <= 9; n++) {
            edge.is("behind " + n, (1 << Math.min(8, n)) - 1, x.ahead(1, n, 1));
        }
        edge.is("behind 60", 255, x.ahead(1, 60, 1));
        edge.is("none behind 60", 0, x.ahead(2, 60, 1));
        x.fetch(2, 7);
        edge.is("what he HAD now, behind 0", 128, x.ahead(2, 0, 1));
        edge.is("what he HAD now, behind 60", 128, x.ahead(2, 60, 1));
    }

    private static void p16Bad() {
        edge.test(16, "BAD.");
        for (int what = 0; what < 2; what++) {
            int asked = what;
            edge.bounds("READER", 0, 2, r -> Edge.lived().ahead(r, 1, asked));
            edge.bounds("n", 0, 60, n -> Edge.lived().ahead(0, n, asked));
        }
        edge.bounds("what", 0, 1, what -> Edge.lived().ahead(0, 1, what));
        edge.is("nobody", BAD, new UpperSteps().ahead(0, 0, 0));
        edge.refused("ahead(0, 61, 0)", BAD, y -> y.ahead(0, 61, 0));
    }

    private static void p17Done() {
        edge.test(17, "BY DAYS: behind how many (0 to 60) a READER is DONE first. BAD;");
        UpperSteps x = Due.told(EIGHT + "guest 9 1;guest 7 9;guest 0 9;guest 0 72;");
        edge.is("now", 0, x.done(0));
        edge.is("behind one", 1, x.done(1));
        edge.is("behind eight", 8, x.done(2));
        edge.is("behind one, all of them", 1, x.done(3));
        edge.is("nothing is changed", 0, x.reader(2, 1));
        edge.bounds("READER", 0, 3, x::done);
        edge.bounds("READER of three", 0, 2, r -> Edge.lived().done(r));
        edge.is("nobody", BAD, new UpperSteps().done(0));
    }

    private static void p17None() {
        edge.test(17, "NONE: behind none.");
        UpperSteps x = Due.told("book 0 5 1;book 0 9 9;guest 0 9;guest 0 8;");
        edge.is("behind two", 2, x.done(0));
        edge.is("VERTIGO for ever", NONE, x.done(1));
        x.fetch(1, 1);
        edge.is("he HAD it", 1, x.done(1));
    }

    private static void p18Vertigo() {
        edge.test(18, "The BOOK, in a DAY from now on, by which a READER has VERTIGO in it. BAD;");
        UpperSteps x = Due.told(EIGHT + "guest 0 8;guest 0 71;guest 9 1;guest 0 72;");
        edge.is("the first", 0, x.vertigo(0));
        edge.is("the last", 7, x.vertigo(1));
        edge.is("nothing is changed", 0, x.reader(1, 3));
        edge.bounds("READER", 0, 3, x::vertigo);
        edge.bounds("READER of three", 0, 2, r -> Edge.lived().vertigo(r));
        edge.is("nobody", BAD, new UpperSteps().vertigo(0));
        x.days(1);
        edge.is("from now on", NONE, x.vertigo(1));
    }

    private static void p18None() {
        edge.test(18, "NONE: by none.");
        UpperSteps x = Due.told(EIGHT + "guest 0 8;guest 0 71;guest 9 1;guest 0 72;");
        edge.is("who WANTS none", NONE, x.vertigo(2));
        edge.is("who BEARS just so much", NONE, x.vertigo(3));
        x.alter(3, 2, 71);
        edge.is("who BEARS 1 less", 7, x.vertigo(3));
        x.fetch(0, 0);
        edge.is("who HAD it", NONE, x.vertigo(0));
    }
}
