/** Boundary cases of the promises 35 to 39: sheets, and how many there are. */
public final class SheetEdgeTest {
    private static final int BAD = Edge.BAD, NONE = Edge.NONE;
    private static final int LEAST = Edge.LEAST, MOST = Edge.MOST;
    private static final Edge edge = new Edge();

    public static void main(String[] args) {
        p35NewRow();
        p35Bad();
        p35Above40();
        p35Size();
        p36Cell();
        p36LowestBits();
        p36Bad();
        p36Null();
        p36Index();
        p37HowMany();
        p37TwoCells();
        p37AsByFetch();
        p37Torn();
        p37Bad();
        p37Refused();
        p37FirstMet();
        p38Faults();
        p38ThatCameToAnEnd();
        p39Seen();
        p39Images();
        p39Tape();
        p39Cells();
        p39Heights();
        p39Bears();
        p39Bad();
        edge.finish("SheetEdgeTest", 35, 39);
    }

    /** Four READERS and four BOOKS in BAY 0 at HEIGHT 1: two minutes each for a guest. */
    private static UpperSteps four() {
        return Due.told("book 0 1 9;".repeat(4) + "guest 9 1;".repeat(4));
    }

    /** SHEET 0, of a lane, has the CELLS told. */
    private static UpperSteps laid(int lane, int... cells) {
        UpperSteps x = four();
        x.sheet(0, lane, cells.length);
        for (int i = 0; i < cells.length; i++) {
            x.lay(0, i, cells[i]);
        }
        return x;
    }

    // ---- sheet

    private static void p35NewRow() {
        edge.test(35, "A SHEET is a new row of CELLS 0: 1.");
        for (int lane = 0; lane < 3; lane++) {
            UpperSteps x = laid(lane, 3, 2, 1, 2);
            edge.is("of two CELLS", 1, x.sheet(0, lane, 2));
            edge.is("two", 2, x.count(3));
            edge.is("CELLS 0, 0", 1, x.read(0, lane, 0, 1));
            edge.is("BOOK 0 by READER 0", 1, x.reader(0, 3));
            edge.is("none by another", 0, x.reader(1, 3) + x.reader(2, 3) + x.reader(3, 3));
            edge.is("the rest is gone", -12, x.lay(0, 2, 1));
            // A longer row holds nothing of what there was.
            UpperSteps y = laid(lane, 3, 2, 1, 2);
            y.sheet(0, lane, 1);
            edge.is("of forty", 1, y.sheet(0, lane, 40));
            edge.is("CELLS 2, 3 are 0", 1, y.read(0, lane, 2, 1));
            edge.is("BOOK 0 by READER 0 again", 1, y.reader(0, 3));
            edge.is("of none", 1, y.sheet(0, lane, 0));
            edge.is("none", 0, y.count(3));
            edge.is("of another lane", 1, y.sheet(0, (lane + 1) % 3, 2));
            y.read(0, lane, 0, 1);
            edge.is("the lane is new", 3, y.torn());
        }
        UpperSteps z = laid(0, 3, 2);
        z.sheet(1, 0, 2);
        edge.is("the others stay", 1, z.read(0, 0, 0, 1));
        edge.is("as they were", 4, z.reader(3, 3));
    }

    private static void p35Bad() {
        edge.test(35, "BAD: also");
        edge.bounds("k", 0, 3, k -> Edge.lived().sheet(k, 0, 2));
        edge.bounds("lane", 0, 2, lane -> Edge.lived().sheet(0, lane, 2));
        for (int k : new int[] {-1, 4, LEAST, MOST}) {
            edge.refused("SHEET " + k, BAD, y -> y.sheet(k, 0, 2));
        }
        for (int lane : new int[] {-1, 3, LEAST, MOST}) {
            edge.refused("lane " + lane, BAD, y -> y.sheet(0, lane, 2));
        }
    }

    private static void p35Above40() {
        edge.test(35, "n above 40;");
        for (int lane = 0; lane < 3; lane++) {
            int asked = lane;
            edge.is("40", 1, four().sheet(0, lane, 40));
            edge.is("41", BAD, four().sheet(0, lane, 41));
            edge.is("most", BAD, four().sheet(0, lane, MOST));
            edge.refused("41 CELLS of lane " + lane, BAD, y -> y.sheet(asked, asked, 41));
        }
        UpperSteps x = new UpperSteps();
        x.sheet(0, 0, 41);
        edge.is("nothing still", NONE, x.count(3));
    }

    private static void p35Size() {
        edge.test(35, "-10 - 4.");
        for (int lane = 0; lane < 3; lane++) {
            edge.is("no CELLS", 1, four().sheet(0, lane, 0));
            edge.is("-1", -14, four().sheet(0, lane, -1));
            edge.is("least", -14, four().sheet(0, lane, LEAST));
        }
        edge.is("BAD k is ahead", BAD, four().sheet(4, 0, -1));
        edge.is("BAD lane is ahead", BAD, four().sheet(0, -1, -1));
        edge.refused("SIZE", -14, y -> y.sheet(0, 0, -1));
        edge.refused("SIZE in another lane", -14, y -> y.sheet(1, 2, LEAST));
        UpperSteps x = new UpperSteps();
        x.sheet(0, 0, -1);
        edge.is("nothing still", NONE, x.count(3));
        edge.is("torn() is of read() alone", 0, x.torn());
    }

    // ---- lay

    private static void p36Cell() {
        edge.test(36, "CELL i of a SHEET becomes v");
        for (int lane = 0; lane < 3; lane++) {
            for (int k = 0; k < 4; k++) {
                UpperSteps x = four();
                x.sheet(k, lane, 40);
                edge.is("the first", 1, x.lay(k, 0, 3));
                edge.is("the last", 1, x.lay(k, 39, 2));
                edge.is("read of the first", 1, x.read(k, lane, 0, 1));
                edge.is("READER 3 had BOOK 0", 1, x.reader(3, 3));
                edge.is("read of the last", 1, x.read(k, lane, 38, 1));
                edge.is("READER 0 had BOOK 2", 4, x.reader(0, 3));
                edge.is("anew", 1, x.lay(k, 39, 1));
                edge.is("read of the last again", 1, x.read(k, lane, 38, 1));
                edge.is("READER 0 had BOOK 1", 6, x.reader(0, 3));
            }
        }
    }

    private static void p36LowestBits() {
        edge.test(36, "(its lowest bits): 1.");
        // What a CELL holds is told by who reads: it is READER 1 only if it is 1.
        int[] one = {1, 257, -255, 65537, 1 - 65536, 1 << 31 | 1, 16777217, 256, 65536, 0x7fffff01, 0x10001, 0x10101};
        for (int v : one) {
            holds(0, v, (byte) v);
            holds(1, v, (short) v);
            holds(2, v, v);
        }
        // Half of all numbers are below 0: 128 and 255 of BYTES, 32768 and 65535 of SHORTS.
        for (int v : new int[] {127, 128, 255, -1, 32767, 32768, 65535, LEAST, MOST}) {
            holds(0, v, (byte) v);
            holds(1, v, (short) v);
            holds(2, v, v);
        }
    }

    private static void holds(int lane, int v, int held) {
        UpperSteps x = laid(lane, 0, 0);
        edge.is("laid " + v, 1, x.lay(0, 0, v));
        boolean reader = held >= 0 && held <= 3;
        edge.is(v + " in lane " + lane, reader ? 1 : -20, x.read(0, lane, 0, 1));
        for (int r = 0; r < 4; r++) {
            edge.is(v + " in lane " + lane + " as READER " + r, held == r ? 1 : 0, x.reader(r, 3));
        }
    }

    private static void p36Bad() {
        edge.test(36, "BAD: k;");
        edge.bounds("k", 0, 3, k -> Edge.lived().lay(k, 0, 0));
        edge.is("BAD is ahead of NULL and INDEX", BAD, new UpperSteps().lay(4, -1, 0));
        for (int k : new int[] {-1, 4, LEAST, MOST}) {
            edge.refused("SHEET " + k, BAD, y -> y.lay(k, 0, 1));
        }
    }

    private static void p36Null() {
        edge.test(36, "-10 less the FAULT: NULL,");
        for (int k = 0; k < 4; k++) {
            UpperSteps x = new UpperSteps();
            edge.is("nothing", -11, x.lay(k, 0, 0));
            edge.is("nothing is ahead of INDEX", -11, x.lay(k, -1, 0));
            edge.is("nothing is ahead of INDEX above", -11, x.lay(k, 40, 0));
            x.sheet(k, 0, 1);
            edge.is("a row", 1, x.lay(k, 0, 0));
        }
        edge.refused("NULL", -11, y -> y.lay(3, 0, 1));
    }

    private static void p36Index() {
        edge.test(36, "INDEX.");
        for (int n = 0; n <= 40; n += 20) {
            UpperSteps x = new UpperSteps();
            x.sheet(0, 1, n);
            for (int i : new int[] {LEAST, -1, n, n + 1, 40, MOST}) {
                edge.is("CELL " + i + " of " + n, -12, x.lay(0, i, 0));
            }
            for (int i = 0; i < n; i++) {
                edge.is("CELL " + i + " of " + n, 1, x.lay(0, i, 0));
            }
        }
        edge.refused("INDEX -1", -12, y -> y.lay(0, -1, 1));
        edge.refused("INDEX 6", -12, y -> y.lay(0, 6, 1));
        edge.refused("INDEX 4 of lane 1", -12, y -> y.lay(1, 4, 1));
    }

    // ---- read

    private static UpperSteps twentyPairs(int lane) {
        UpperSteps x = Due.told("book 0 1 9;".repeat(5) + "guest 9 1;".repeat(4));
        x.sheet(0, lane, 40);
        for (int i = 0; i < 20; i++) {
            x.lay(0, 2 * i, i % 4);
            x.lay(0, 2 * i + 1, i / 4);
        }
        return x;
    }

    private static void p37HowMany() {
        edge.test(37, "n (0 to 20) times a READER, a BOOK are read of a SHEET taken as of a lane,", "how many came.");
        for (int lane = 0; lane < 3; lane++) {
            UpperSteps x = twentyPairs(lane);
            x.read(1, lane, 0, 1);
            edge.is("none", 0, x.read(0, lane, 0, 0));
            edge.is("no FAULT of none", 0, x.torn());
            edge.is("nothing came", 0, x.rule(3));
            edge.is("one", 1, x.read(0, lane, 0, 1));
            edge.is("the next nineteen", 19, x.read(0, lane, 2, 19));
            edge.is("CLOCK", 40, x.rule(3));
            for (int r = 0; r < 4; r++) {
                edge.is("READER " + r + " had five", 31, x.reader(r, 3));
            }
            UpperSteps y = twentyPairs(lane);
            edge.is("twenty", 20, y.read(0, lane, 0, 20));
            edge.is("no FAULT", 0, y.torn());
            for (int as = 0; as < 3; as++) {
                UpperSteps z = twentyPairs(lane);
                edge.is("lane " + lane + " as of " + as, as == lane ? 1 : 0, z.read(0, as, 0, 1));
                edge.is("FAULT", as == lane ? 0 : 3, z.torn());
                edge.is("CLOCK then", as == lane ? 2 : 0, z.rule(3));
            }
        }
    }

    private static void p37TwoCells() {
        edge.test(37, "two CELLS each from CELL f on,");
        UpperSteps x = laid(0, 3, 0, 1, 2);
        edge.is("from 0", 1, x.read(0, 0, 0, 1));
        edge.is("3 had 0", 1, x.reader(3, 3));
        edge.is("from 1", 1, x.read(0, 0, 1, 1));
        edge.is("0 had 1", 2, x.reader(0, 3));
        edge.is("from 2", 1, x.read(0, 0, 2, 1));
        edge.is("1 had 2", 4, x.reader(1, 3));
        edge.is("from 3 there is but one CELL", 0, x.read(0, 0, 3, 1));
        edge.is("INDEX", 2, x.torn());
        edge.is("from 4 there is none", 0, x.read(0, 0, 4, 1));
        edge.is("INDEX at 4", 2, x.torn());
        for (int f : new int[] {-1, -2, 5, 40, LEAST, LEAST + 1, MOST - 1, MOST}) {
            edge.is("from " + f, 0, x.read(0, 0, f, 20));
            edge.is("INDEX at " + f, 2, x.torn());
        }
        edge.is("nothing more came", 6, x.rule(3));
    }

    private static void p37AsByFetch() {
        edge.test(37, "one behind another as by fetch():");
        UpperSteps x = Due.told("book 0 9 9;book 7 9 9;nephew 9 1;lord 1 1;");
        x.sheet(0, 0, 6);
        int[] cells = {0, 1, 1, 0, 1, 1};
        for (int i = 0; i < 6; i++) {
            x.lay(0, i, cells[i]);
        }
        edge.is("three", 3, x.read(0, 0, 0, 3));
        edge.is("THE STEPS go to and fro, however DIZZY", 43 + 17 + 17, x.rule(3));
        edge.is("THE STEPS", 7, x.rule(2));
        edge.is("no DAY", 0, x.rule(4));
        edge.is("whatever he WANTS", 1, x.reader(1, 1));
        edge.is("he had both", 3, x.reader(1, 3));
    }

    private static void p37Torn() {
        edge.test(37, "What the machine refuses: those that were whole ahead came (its FAULT is asked by torn()).");
        UpperSteps x = laid(0, 0, 0, 1, 1, 2);
        edge.is("two are whole", 2, x.read(0, 0, 0, 3));
        edge.is("INDEX", 2, x.torn());
        edge.is("CLOCK", 4, x.rule(3));
        edge.is("READER 0", 1, x.reader(0, 3));
        edge.is("READER 1", 2, x.reader(1, 3));
        edge.is("READER 2 is not whole", 0, x.reader(2, 3));
        UpperSteps y = laid(0, 0, 0, 1, 1);
        edge.is("just two", 2, y.read(0, 0, 0, 2));
        edge.is("none", 0, y.torn());
        UpperSteps z = laid(0, 0, 0, 1, 1);
        edge.is("one more", 2, z.read(0, 0, 0, 20));
        edge.is("INDEX of one more", 2, z.torn());
        // What is not whole is not refused by fetch(), whoever it would be.
        UpperSteps odd = laid(0, 0, 0, 9);
        edge.is("nobody, not whole", 1, odd.read(0, 0, 0, 2));
        edge.is("INDEX of nobody", 2, odd.torn());
        UpperSteps nothing = four();
        edge.is("NULL", 0, nothing.read(3, 2, 0, 20));
        edge.is("its FAULT", 1, nothing.torn());
        edge.is("nothing came", 0, nothing.rule(3));
        UpperSteps full = twentyPairs(0);
        full.sheet(1, 0, 40);
        edge.is("from the last pair on", 1, full.read(0, 0, 38, 2));
        edge.is("INDEX behind CELL 39", 2, full.torn());
    }

    private static void p37Bad() {
        edge.test(37, "BAD: k, lane, n;");
        edge.bounds("k", 0, 3, k -> Edge.lived().read(k, 0, 0, 0));
        edge.bounds("lane", 0, 2, lane -> Edge.lived().read(0, lane, 0, 0));
        edge.bounds("n", 0, 20, n -> Edge.lived().read(0, 0, 0, n));
        edge.is("21 of twenty", BAD, twentyPairs(0).read(0, 0, 0, 21));
        edge.is("BAD k is ahead of the machine", BAD, new UpperSteps().read(4, 0, 0, 1));
        edge.is("BAD lane is ahead of the machine", BAD, new UpperSteps().read(0, 3, 0, 1));
        edge.is("BAD n is ahead of the machine", BAD, new UpperSteps().read(0, 0, 0, -1));
        for (int v : new int[] {-1, LEAST, MOST}) {
            edge.refused("k " + v, BAD, y -> y.read(v, 0, 0, 1));
            edge.refused("lane " + v, BAD, y -> y.read(0, v, 0, 1));
            edge.refused("n " + v, BAD, y -> y.read(0, 0, 0, v));
        }
        edge.refused("k 4", BAD, y -> y.read(4, 0, 0, 1));
        edge.refused("lane 3", BAD, y -> y.read(0, 3, 0, 1));
        edge.refused("n 21", BAD, y -> y.read(0, 0, 0, 21));
    }

    private static void p37Refused() {
        edge.test(37, "-20 less i: the i-th, whole, is refused by fetch() (in whichever way): then none came;");
        // BAD by READER or BOOK, too small or too large.
        for (int v : new int[] {-1, 4, 127, -128}) {
            edge.refused("READER " + v, -20, () -> laid(0, v, 0), y -> y.read(0, 0, 0, 1));
            edge.refused("BOOK " + v, -20, () -> laid(0, 0, v), y -> y.read(0, 0, 0, 1));
            edge.refused("READER " + v + " the second", -21, () -> laid(0, 0, 0, v, 1), y -> y.read(0, 0, 0, 2));
            edge.refused("BOOK " + v + " the third", -22, () -> laid(0, 0, 0, 1, 1, 2, v), y -> y.read(0, 0, 0, 3));
        }
        for (int v : new int[] {LEAST, MOST, 1 << 30}) {
            edge.refused("READER " + v, -20, () -> laid(2, v, 0), y -> y.read(0, 2, 0, 1));
            edge.refused("BOOK " + v, -20, () -> laid(2, 0, v), y -> y.read(0, 2, 0, 1));
        }
        edge.is("READER 3, BOOK 3", 1, laid(0, 3, 3).read(0, 0, 0, 1));
        // STATE, by what came ahead in the same read(), too.
        edge.refused("twice the same", -21, () -> laid(0, 0, 0, 0, 0), y -> y.read(0, 0, 0, 2));
        edge.is("once the same", 1, laid(0, 0, 0, 0, 0).read(0, 0, 0, 1));
        edge.refused("the twentieth", -39, () -> twentyPairsButLast(), y -> y.read(0, 0, 0, 20));
        edge.is("nineteen", 19, twentyPairsButLast().read(0, 0, 0, 19));
        // FULL: 36 minutes each for BOOK 0, by two of the nephews.
        edge.refused("CLOCK 10000", -20, () -> late(9964), y -> y.read(0, 0, 0, 1));
        edge.is("CLOCK 9999", 1, late(9963).read(0, 0, 0, 1));
        edge.refused("CLOCK 10000 by the second", -21, () -> late(9928), y -> y.read(0, 0, 0, 2));
        edge.is("CLOCK 9999 by the second", 2, late(9927).read(0, 0, 0, 2));
        // None came, though the machine would refuse what is behind it.
        edge.refused("ahead of INDEX", -21, () -> laid(0, 0, 0, 0, 0), y -> y.read(0, 0, 0, 3));
    }

    private static UpperSteps twentyPairsButLast() {
        UpperSteps x = twentyPairs(0);
        x.lay(0, 38, 0);
        return x;
    }

    private static UpperSteps late(int clock) {
        UpperSteps x = Edge.clockAt(clock);
        x.sheet(0, 0, 4);
        x.lay(0, 2, 1);
        return x;
    }

    private static void p37FirstMet() {
        edge.test(37, "the first met.");
        edge.is("of two refused the first", -20, laid(0, 4, 0, 4, 0).read(0, 0, 0, 2));
        edge.is("of two refused the second and third", -21, laid(0, 0, 0, 4, 0, 4, 0).read(0, 0, 0, 3));
        edge.is("refused ahead of INDEX", -20, laid(0, 4, 0).read(0, 0, 0, 2));
        edge.is("CAST ahead of what would be refused", 0, laid(0, 4, 0).read(0, 1, 0, 1));
        edge.is("INDEX ahead of what would be refused", 0, laid(0, 0, 4).read(0, 0, -1, 2));
        UpperSteps x = laid(0, 0, 0);
        x.read(0, 1, -1, 1);
        edge.is("CAST ahead of INDEX", 3, x.torn());
        x.read(1, 1, -1, 1);
        edge.is("NULL ahead of CAST and INDEX", 1, x.torn());
    }

    // ---- torn, count

    private static void p38Faults() {
        edge.test(38, "The FAULT of the latest read()", "; 0.");
        UpperSteps x = laid(0, 0, 0, 1, 1);
        edge.is("no read() yet", 0, x.torn());
        edge.is("came", 1, x.read(0, 0, 0, 1));
        edge.is("no FAULT", 0, x.torn());
        x.read(1, 0, 0, 1);
        edge.is("NULL", 1, x.torn());
        x.read(0, 0, 3, 1);
        edge.is("INDEX", 2, x.torn());
        x.read(0, 2, 0, 1);
        edge.is("CAST", 3, x.torn());
        edge.is("SIZE is of sheet()", -14, x.sheet(0, 0, -1));
        edge.is("CAST still", 3, x.torn());
        edge.is("INDEX is of lay()", -12, x.lay(0, 9, 0));
        edge.is("CAST even then", 3, x.torn());
        edge.is("came again", 1, x.read(0, 0, 2, 1));
        edge.is("no FAULT again", 0, x.torn());
    }

    private static void p38ThatCameToAnEnd() {
        edge.test(38, "that came to an end");
        UpperSteps x = laid(0, 0, 0, 0, 0);
        x.read(1, 0, 0, 1);
        edge.is("NULL", 1, x.torn());
        edge.is("BAD k", BAD, x.read(4, 0, 0, 1));
        edge.is("BAD lane", BAD, x.read(0, 3, 0, 1));
        edge.is("BAD n", BAD, x.read(0, 0, 0, 21));
        edge.is("NULL still", 1, x.torn());
        edge.is("refused by fetch()", -21, x.read(0, 0, 0, 2));
        edge.is("NULL even then", 1, x.torn());
        edge.is("to its end", 1, x.read(0, 0, 0, 1));
        edge.is("no FAULT", 0, x.torn());
        edge.is("refused", -20, x.read(0, 0, 0, 1));
        edge.is("no FAULT still", 0, x.torn());
        x.read(0, 1, 0, 1);
        Due.tell(x, "");
        edge.is("a text is no read()", 3, x.torn());
    }

    private static void p39Seen() {
        edge.test(39, "How many: 0 SEEN,");
        UpperSteps x = Due.told("guest 9 1;");
        for (int i = 0; i <= 6; i++) {
            edge.is("so many", i, x.count(0));
            x.see(0, 0, 9);
        }
        edge.is("six at most", 6, x.count(0));
        x.forget(0);
        edge.is("none", 0, x.count(0));
    }

    private static void p39Images() {
        edge.test(39, "1 IMAGES,");
        UpperSteps x = new UpperSteps();
        edge.is("none", 0, x.count(1));
        x.keep(1);
        edge.is("one", 1, x.count(1));
        x.keep(1);
        edge.is("one still", 1, x.count(1));
        x.keep(0);
        edge.is("two", 2, x.count(1));
        x.back(0);
        edge.is("two still", 2, x.count(1));
        x.text();
        edge.is("none behind a text", 0, x.count(1));
    }

    private static void p39Tape() {
        edge.test(39, "2 bytes on THE TAPE,");
        UpperSteps x = new UpperSteps();
        for (int i = 0; i <= 160; i++) {
            edge.is("so many", i, x.count(2));
            x.feed(32);
        }
        edge.is("160 at most", 160, x.count(2));
        x.end(1);
        edge.is("one", 1, x.count(2));
        x.text();
        edge.is("none", 0, x.count(2));
    }

    private static void p39Cells() {
        edge.test(39, "3 CELLS of SHEET 0 (NONE: nothing),");
        UpperSteps x = new UpperSteps();
        edge.is("nothing", NONE, x.count(3));
        x.sheet(1, 0, 5);
        edge.is("nothing of SHEET 0", NONE, x.count(3));
        x.sheet(0, 0, 0);
        edge.is("no CELLS", 0, x.count(3));
        x.sheet(0, 2, 40);
        edge.is("forty", 40, x.count(3));
        x.sheet(0, 1, 1);
        edge.is("one", 1, x.count(3));
    }

    private static void p39Heights() {
        edge.test(39, "4 all HEIGHTS,");
        edge.is("no BOOKS", 0, new UpperSteps().count(4));
        edge.is("0", 0, Due.told("book 7 0 9;").count(4));
        UpperSteps x = Due.told("book 7 9 9;".repeat(8));
        edge.is("most", 72, x.count(4));
        Due.tell(x, "book 7 9 9;book 7 1 9;");
        edge.is("of those that there are", 10, x.count(4));
    }

    private static void p39Bears() {
        edge.test(39, "5 all that READERS BEAR.");
        edge.is("nobody", 0, new UpperSteps().count(5));
        edge.is("1", 1, Due.told("lord 9 1;").count(5));
        UpperSteps x = Due.told("lord 9 99;".repeat(4));
        edge.is("most", 396, x.count(5));
        Due.tell(x, "lord 9 99;maid 9 1;");
        edge.is("of those that there are", 100, x.count(5));
    }

    private static void p39Bad() {
        edge.test(39, "BAD.");
        edge.bounds("count", 0, 5, what -> Edge.lived().count(what));
        edge.bounds("count of a new object", 0, 5, what -> new UpperSteps().count(what));
        edge.refused("count(6)", BAD, y -> y.count(6));
        edge.refused("count(-1)", BAD, y -> y.count(-1));
    }
}
