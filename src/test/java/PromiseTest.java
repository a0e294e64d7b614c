/** Each promise by itself, with answers worked out by hand from the document. */
public final class PromiseTest {
    private static final int BAD = -1, STATE = -2, FULL = -3, NONE = -4;
    private static final int LEAST = Integer.MIN_VALUE, MOST = Integer.MAX_VALUE;
    private static final String THREE =
            "book 2 3 1;book 5 6 2;book 1 9 9;guest 0 12;maid 1 9;lord 2 17;steps 4;";
    private static final Due due = new Due();

    public static void main(String[] args) {
        p01NewObject();
        p02Feed();
        p03End();
        p04And05Text();
        p04TextTellsAll();
        p04RefusedTextChangesNothing();
        p06Rule();
        p07Book();
        p08Reader();
        p09Shelve();
        p10Alter();
        p11Roll();
        p12Forgets();
        p13Fetch();
        p13And14FullClock();
        p14Days();
        p15Runs();
        p16Ahead();
        p17Done();
        p18Vertigo();
        p19Order();
        p20Start();
        p21Swap();
        p22Knee();
        p23Need();
        p24High();
        p25Luck();
        p26Mean();
        p27See();
        p27SeeBookThatIsNotThere();
        p28Forget();
        p29Kinds();
        p30Heights();
        p31Ask();
        p32Drift();
        p33And34Images();
        p35Sheet();
        p36Lay();
        p37Read();
        p38Torn();
        p39Count();
        due.finish("PromiseTest");
    }

    private static void p01NewObject() {
        UpperSteps x = new UpperSteps();
        for (int what = 0; what <= 5; what++) {
            due.is("P1 rule " + what, 0, x.rule(what));
        }
        due.is("P1 book", BAD, x.book(0, 0));
        due.is("P1 reader", BAD, x.reader(0, 0));
        due.is("P1 fault", 0, x.fault());
        due.is("P1 torn", 0, x.torn());
        due.is("P1 seen", 0, x.count(0));
        due.is("P1 images", 0, x.count(1));
        due.is("P1 tape", 0, x.count(2));
        due.is("P1 sheet 0", NONE, x.count(3));
        for (int k = 0; k < 4; k++) {
            due.is("P1 lay on nothing", -11, x.lay(k, 0, 0));
        }
        due.is("P1 order", 0, x.order(0));
        due.is("P1 order place", BAD, x.order(10));
        due.is("P1 all done", 0, x.runs(0, 3));
        due.is("P1 start", 0, x.start(60, 0));
        due.is("P1 swap", NONE, x.swap(60, 0));
        due.is("P1 luck", 1, x.luck(5, 8, 0, 0));
        due.is("P1 mean", 0, x.mean(5, 8, 0));
        due.is("P1 mean by", 1, x.mean(5, 8, 1));
        due.is("P1 days", 0, x.days(30));
        due.is("P1 day", 30, x.rule(4));
    }

    private static void p02Feed() {
        UpperSteps x = new UpperSteps();
        due.is("P2 below", BAD, x.feed(-1));
        due.is("P2 above", BAD, x.feed(128));
        due.is("P2 least", BAD, x.feed(LEAST));
        due.is("P2 most", BAD, x.feed(MOST));
        due.is("P2 nothing came", 0, x.count(2));
        due.is("P2 0", 1, x.feed(0));
        due.is("P2 127", 2, x.feed(127));
        for (int i = 3; i <= 160; i++) {
            due.is("P2 byte " + i, i, x.feed(32));
        }
        due.is("P2 full", FULL, x.feed(32));
        due.is("P2 bad is ahead of full", BAD, x.feed(128));
        due.is("P2 tape", 160, x.count(2));
        due.is("P2 first byte is kept", -10, x.text());
        due.is("P2 empty then", 1, x.feed(32));
    }

    private static void p03End() {
        UpperSteps x = new UpperSteps();
        due.is("P3 empty", 0, x.end(0));
        due.is("P3 more than empty", BAD, x.end(1));
        Due.type(x, "steps 4;xx");
        due.is("P3 below", BAD, x.end(-1));
        due.is("P3 above", BAD, x.end(11));
        due.is("P3 least", BAD, x.end(LEAST));
        due.is("P3 all", 10, x.end(10));
        due.is("P3 some", 10, x.end(8));
        due.is("P3 kept", 8, x.count(2));
        due.is("P3 told", 1, x.text());
        due.is("P3 steps", 4, x.rule(2));
        Due.type(x, "maid");
        due.is("P3 none kept", 4, x.end(0));
        due.is("P3 is empty", 0, x.count(2));
    }

    private static void text(String text, int answer, int fault) {
        UpperSteps x = new UpperSteps();
        due.is("P4 '" + text + "'", answer, Due.tell(x, text));
        due.is("P5 '" + text + "'", fault, x.fault());
        due.is("P4 tape behind '" + text + "'", 0, x.count(2));
    }

    private static void p04And05Text() {
        text("", 0, 0);
        text("   ", 0, 0);
        text("steps 4;", 1, 0);
        text("steps4;", 1, 0);
        text("  steps   04 ;  ", 1, 0);
        text(THREE, 7, 0);
        text("guest 0 1;book 0 0 9;", 2, 0);
        text("book00 9 9;", 1, 0);
        // 1: no TOKEN, a NUMBER that is too long
        text("Steps 4;", -10, 1);
        text("steps\t4;", -15, 1);
        text("steps 4;\n", -18, 1);
        text("steps 4,", -17, 1);
        text("steps -4;", -16, 1);
        text("steps 004;", -16, 1);
        text("steps 123456;", -16, 1);
        text("guest 9 100;", -18, 1);
        text("\0", -10, 1);
        text("steps 4 999", -18, 1);
        text("`", -10, 1);
        text("{", -10, 1);
        text("/", -10, 1);
        text(":", -10, 1);
        // 2: a TOKEN that can not stand there
        text("sTeps 4;", -10, 2);
        text("step 4;", -10, 2);
        text("z", -10, 2);
        text("a", -10, 2);
        text("bookz 1 1 9;", -10, 2);
        text("stepss 4;", -10, 2);
        text("4;", -10, 2);
        text(" ;", -11, 2);
        text("steps 4;;", -18, 2);
        text("steps", -15, 2);
        text("steps  ", -17, 2);
        text("steps ;", -16, 2);
        text("steps 4", -17, 2);
        text("steps 4  ", -19, 2);
        text("steps 4 4;", -18, 2);
        text("steps four;", -16, 2);
        text("book 1 1;", -18, 2);
        text("book 1 1 9 9;", -21, 2);
        text("maid 9;", -16, 2);
        text("book1 1 9 guest", -20, 2);
        text("book 12 1 9;", -15, 3);
        // 3: a NUMBER out of its bounds
        text("steps 8;", -16, 3);
        text("steps 8 X", -16, 3);
        text("steps 07;", 1, 0);
        text("book 7 9 9;", 1, 0);
        text("book 8 0 9;", -15, 3);
        text("book 7 10 9;", -17, 3);
        text("book 0 0 8;", -19, 3);
        text("book 0 0 10;", -19, 3);
        text("guest 8 1;", -16, 3);
        text("lord 10 1;", -15, 3);
        text("nephew 9 0;", -19, 3);
        text("maid 9 00;", -17, 3);
        text("maid 9 01;", 1, 0);
        text("maid 9 99;", 1, 0);
        text("book 0 0 7;steps 9;", -27, 3);
        // 4: steps for the second time
        text("steps 1;steps 99;", -18, 4);
        text("steps 1;book 0 0 9; steps", -30, 4);
        // 5: the 9th book, the 5th READER
        String eight = "book 0 0 7;".repeat(8);
        text(eight, 8, 0);
        text(eight + "book 0 0 9;", -98, 5);
        text(eight + " book", -99, 5);
        String four = "guest 9 1;maid 9 1;lord 9 1;nephew 9 1;";
        text(four, 4, 0);
        text(four + "guest 9 1;", -49, 5);
        text(four + "lord X", -49, 5);
        // 6: a BOOK that there is not
        text("book 0 0 0;", 1, 0);
        text("book 0 0 1;", -21, 6);
        text("book 0 0 1;  ", -23, 6);
        text("book 0 0 9;maid 1 5;", -30, 6);
        text("maid 0 5;", -19, 6);
        text("maid 7 5;" + "book 0 0 9;".repeat(7), -96, 6);
        text("maid 7 5;" + "book 0 0 9;".repeat(8), 9, 0);
        text(eight.substring(11), -87, 6);
    }

    private static void p04TextTellsAll() {
        UpperSteps x = Due.told(THREE);
        x.see(1, 0, 2);
        x.keep(1);
        x.days(2);
        x.sheet(0, 1, 5);
        due.is("P4 faulty", -10, Due.tell(x, "x"));
        due.is("P5 faulty", 2, x.fault());
        due.is("P4 anew", 2, Due.tell(x, "lord 0 3;book 1 2 0;"));
        due.is("P5 anew", 0, x.fault());
        due.is("P4 books", 1, x.rule(0));
        due.is("P4 readers", 1, x.rule(1));
        due.is("P4 steps", 0, x.rule(2));
        due.is("P4 clock", 0, x.rule(3));
        due.is("P4 day", 0, x.rule(4));
        due.is("P4 done", 0, x.rule(5));
        due.is("P4 had", 0, x.reader(0, 3));
        due.is("P4 seen", 0, x.count(0));
        due.is("P4 images", 0, x.count(1));
        due.is("P4 back", STATE, x.back(1));
        due.is("P4 sheets stay", 5, x.count(3));
        due.is("P4 empty text", 0, x.text());
        due.is("P4 no books", 0, x.rule(0));
        due.is("P4 nobody", 0, x.rule(1));
    }

    private static void p04RefusedTextChangesNothing() {
        UpperSteps x = Due.told(THREE);
        x.see(1, 0, 2);
        x.keep(1);
        x.days(1);
        due.is("P4 refused", -21, Due.tell(x, "book 0 0 1;"));
        due.is("P5 refused", 6, x.fault());
        due.is("P4 books stay", 3, x.rule(0));
        due.is("P4 clock stays", 61, x.rule(3));
        due.is("P4 seen stays", 1, x.count(0));
        due.is("P4 image stays", 1, x.count(1));
        due.is("P4 tape is empty", 0, x.count(2));
    }

    private static void p06Rule() {
        UpperSteps x = Due.told(THREE + "nephew 9 1;");
        int[] first = {3, 4, 4, 0, 0, 8};
        for (int what = 0; what <= 5; what++) {
            due.is("P6 rule " + what, first[what], x.rule(what));
        }
        x.days(1);
        int[] then = {3, 4, 1, 61, 1, 10};
        for (int what = 0; what <= 5; what++) {
            due.is("P6 rule then " + what, then[what], x.rule(what));
        }
        for (int what : new int[] {-1, 6, LEAST, MOST}) {
            due.is("P6 bad", BAD, x.rule(what));
        }
    }

    private static void p07Book() {
        UpperSteps x = Due.told(THREE);
        int[][] books = {{2, 3, 1, 0}, {5, 6, 2, 0}, {1, 9, NONE, 0}};
        for (int b = 0; b < 3; b++) {
            for (int what = 0; what < 4; what++) {
                due.is("P7 book " + b + " " + what, books[b][what], x.book(b, what));
            }
        }
        x.days(1);
        due.is("P7 who had 0", 1, x.book(0, 3));
        due.is("P7 who had 1", 3, x.book(1, 3));
        due.is("P7 who had 2", 2, x.book(2, 3));
        due.is("P7 no book", BAD, x.book(3, 0));
        due.is("P7 below", BAD, x.book(-1, 0));
        due.is("P7 most", BAD, x.book(MOST, 0));
        due.is("P7 what", BAD, x.book(0, 4));
        due.is("P7 what below", BAD, x.book(0, -1));
    }

    private static void p08Reader() {
        int[][] climb = {
            {0, 1, 2, 3, 4, 5, 6, 7, 8, 9},
            {0, 2, 4, 6, 8, 10, 12, 14, 16, 18},
            {0, 1, 1, 2, 2, 3, 3, 4, 4, 5},
            {1, 2, 3, 4, 5, 6, 7, 8, 9, 10}};
        int[][] dizzy = {
            {0, 1, 2, 3, 4, 5, 6, 7, 8, 9},
            {0, 1, 2, 3, 4, 5, 7, 9, 11, 13},
            {0, 2, 4, 6, 8, 10, 12, 14, 16, 18},
            {0, 0, 0, 1, 1, 1, 2, 3, 3, 4}};
        UpperSteps x = Due.told("book 3 0 9;guest 0 7;nephew 0 8;lord 0 9;maid 0 10;");
        for (int h = 0; h <= 9; h++) {
            x.shelve(0, 1, h);
            for (int r = 0; r < 4; r++) {
                due.is("P8 minutes " + r + " " + h, 3 + 2 * climb[r][h], x.reader(r, 4));
                due.is("P8 dizzy " + r + " " + h, dizzy[r][h], x.reader(r, 5));
            }
        }
        x.roll(7);
        due.is("P8 from above", 4 + 18, x.reader(0, 4));
        for (int r = 0; r < 4; r++) {
            due.is("P8 kind", r, x.reader(r, 0));
            due.is("P8 wants", 0, x.reader(r, 1));
            due.is("P8 bears", 7 + r, x.reader(r, 2));
            due.is("P8 had", 0, x.reader(r, 3));
        }
        x.fetch(1, 0);
        due.is("P8 had one", 1, x.reader(1, 3));
        x.alter(1, 1, 9);
        due.is("P8 wants none", NONE, x.reader(1, 1));
        due.is("P8 no minutes", NONE, x.reader(1, 4));
        due.is("P8 not dizzy", NONE, x.reader(1, 5));
        due.is("P8 nobody", BAD, x.reader(4, 0));
        due.is("P8 below", BAD, x.reader(-1, 0));
        due.is("P8 what", BAD, x.reader(0, 6));
        due.is("P8 what below", BAD, x.reader(0, LEAST));
        due.is("P8 bad is ahead of none", BAD, x.reader(1, 6));
    }

    private static void p09Shelve() {
        UpperSteps x = Due.told(THREE);
        due.is("P9 bay", 2, x.shelve(0, 0, 7));
        due.is("P9 bay is", 7, x.book(0, 0));
        due.is("P9 bay above", BAD, x.shelve(0, 0, 8));
        due.is("P9 bay below", BAD, x.shelve(0, 0, -1));
        due.is("P9 bay stays", 7, x.shelve(0, 0, 0));
        due.is("P9 height", 3, x.shelve(0, 1, 9));
        due.is("P9 height above", BAD, x.shelve(0, 1, 10));
        due.is("P9 height below", BAD, x.shelve(0, 1, -1));
        due.is("P9 height is", 9, x.shelve(0, 1, 0));
        due.is("P9 leads", 1, x.shelve(0, 2, 0));
        due.is("P9 leads to itself", 0, x.shelve(0, 2, 9));
        due.is("P9 leads to none", NONE, x.book(0, 2));
        due.is("P9 no such book", BAD, x.shelve(0, 2, 3));
        due.is("P9 leads to 8", BAD, x.shelve(0, 2, 8));
        due.is("P9 leads to 10", BAD, x.shelve(0, 2, 10));
        due.is("P9 leads below", BAD, x.shelve(0, 2, NONE));
        due.is("P9 led to none", NONE, x.shelve(0, 2, 2));
        due.is("P9 leads to 2", 2, x.book(0, 2));
        due.is("P9 what", BAD, x.shelve(0, 3, 0));
        due.is("P9 what below", BAD, x.shelve(0, -1, 0));
        due.is("P9 book", BAD, x.shelve(3, 0, 0));
        due.is("P9 book below", BAD, x.shelve(-1, 0, 0));
        due.is("P9 others stay", 5, x.book(1, 0));
    }

    private static void p10Alter() {
        UpperSteps x = Due.told(THREE);
        due.is("P10 kind", 0, x.alter(0, 0, 3));
        due.is("P10 kind is", 3, x.reader(0, 0));
        due.is("P10 kind above", BAD, x.alter(0, 0, 4));
        due.is("P10 kind below", BAD, x.alter(0, 0, -1));
        due.is("P10 wants", 0, x.alter(0, 1, 9));
        due.is("P10 wants none", NONE, x.reader(0, 1));
        due.is("P10 wanted none", NONE, x.alter(0, 1, 2));
        due.is("P10 no such book", BAD, x.alter(0, 1, 3));
        due.is("P10 wants 8", BAD, x.alter(0, 1, 8));
        due.is("P10 wants below", BAD, x.alter(0, 1, -1));
        due.is("P10 wants stays", 2, x.reader(0, 1));
        due.is("P10 bears", 12, x.alter(0, 2, 1));
        due.is("P10 bears none", BAD, x.alter(0, 2, 0));
        due.is("P10 bears above", BAD, x.alter(0, 2, 100));
        due.is("P10 bears most", 1, x.alter(0, 2, 99));
        due.is("P10 bears is", 99, x.reader(0, 2));
        due.is("P10 what", BAD, x.alter(0, 3, 1));
        due.is("P10 nobody", BAD, x.alter(3, 0, 1));
        due.is("P10 below", BAD, x.alter(-1, 0, 1));
    }

    private static void p11Roll() {
        UpperSteps x = Due.told(THREE);
        due.is("P11 roll", 4, x.roll(7));
        due.is("P11 above", BAD, x.roll(8));
        due.is("P11 below", BAD, x.roll(-1));
        due.is("P11 stays", 7, x.roll(0));
        due.is("P11 is", 0, x.rule(2));
        due.is("P11 no time", 0, x.rule(3));
    }

    private static void p12Forgets() {
        UpperSteps x = Due.told(THREE);
        due.is("P12 none yet", 0, x.forgets(0));
        x.days(1);
        due.is("P12 two", 2, x.forgets(0));
        due.is("P12 nothing", 0, x.reader(0, 3));
        due.is("P12 the other stays", 6, x.reader(1, 3));
        due.is("P12 wants stays", 2, x.reader(0, 1));
        due.is("P12 nobody", BAD, x.forgets(3));
        due.is("P12 below", BAD, x.forgets(-1));
    }

    private static void p13Fetch() {
        UpperSteps x = Due.told(THREE);
        due.is("P13 however dizzy", 3 + 10, x.fetch(2, 2));
        due.is("P13 steps", 1, x.rule(2));
        due.is("P13 clock", 13, x.rule(3));
        due.is("P13 day", 0, x.rule(4));
        due.is("P13 had", 4, x.reader(2, 3));
        due.is("P13 wants stays", 2, x.reader(2, 1));
        due.is("P13 what he does not want", 1 + 4, x.fetch(2, 0));
        due.is("P13 he had it", STATE, x.fetch(2, 0));
        due.is("P13 clock stays", 18, x.rule(3));
        due.is("P13 another", 0 + 6, x.fetch(0, 0));
        due.is("P13 no book", BAD, x.fetch(0, 3));
        due.is("P13 book below", BAD, x.fetch(0, -1));
        due.is("P13 nobody", BAD, x.fetch(3, 0));
        due.is("P13 below", BAD, x.fetch(LEAST, 0));
    }

    /** 7 rounds of 1327 minutes bring CLOCK to 9289; then BOOK by BOOK to 9999. */
    private static void p13And14FullClock() {
        StringBuilder text = new StringBuilder();
        for (int b = 0; b < 8; b++) {
            text.append("book ").append(b % 2 * 7).append(" 9 ").append(b < 7 ? b + 1 : 9).append(";");
        }
        UpperSteps x = Due.told(text + "nephew 0 99;".repeat(4));
        for (int round = 0; round < 7; round++) {
            due.is("P14 round", 32, x.days(2));
            startRound(x);
        }
        due.is("P14 clock", 9289, x.rule(3));
        due.is("P14 two days", FULL, x.days(2));
        due.is("P14 a day", FULL, x.days(1));
        due.is("P14 bad is ahead", BAD, x.days(31));
        due.is("P14 no day", 0, x.days(0));
        due.is("P14 day stays", 14, x.rule(4));
        due.is("P14 wants stays", 0, x.reader(0, 1));
        due.is("P14 had stays", 0, x.reader(0, 3));
        due.is("P15 minutes know no bound", 1327, x.runs(2, 1));
        for (int b = 0; b < 8; b++) {
            due.is("P13 up " + b, b == 0 ? 36 : 43, x.fetch(0, b));
        }
        for (int b = 7; b >= 0; b--) {
            due.is("P13 down " + b, b == 7 ? 36 : 43, x.fetch(1, b));
        }
        due.is("P13 9963", 9963, x.rule(3));
        due.is("P13 too many", FULL, x.fetch(2, 1));
        due.is("P13 just so many", 36, x.fetch(2, 0));
        due.is("P13 9999", 9999, x.rule(3));
        due.is("P13 state is ahead", STATE, x.fetch(2, 0));
        due.is("P13 full", FULL, x.fetch(2, 2));
        due.is("P13 bad is ahead", BAD, x.fetch(2, 8));
        x.sheet(0, 0, 2);
        x.lay(0, 0, 2);
        x.lay(0, 1, 2);
        due.is("P37 full", -20, x.read(0, 0, 0, 1));
        x.shelve(2, 1, 0);
        due.is("P37 no minutes", 1, x.read(0, 0, 0, 1));
        due.is("P13 still 9999", 9999, x.rule(3));
        due.is("P14 a day at 9999", FULL, x.days(1));
        for (int r = 0; r < 4; r++) {
            x.alter(r, 1, 9);
        }
        due.is("P14 a day of no minutes at 9999", 0, x.days(1));
        due.is("P14 day 15", 15, x.rule(4));
    }

    private static void startRound(UpperSteps x) {
        x.roll(0);
        for (int r = 0; r < 4; r++) {
            x.forgets(r);
            x.alter(r, 1, 0);
        }
    }

    private static void p14Days() {
        UpperSteps x = Due.told(THREE);
        due.is("P14 none", 0, x.days(0));
        due.is("P14 day 0", 0, x.rule(4));
        due.is("P14 one", 4, x.days(1));
        due.is("P14 clock", 61, x.rule(3));
        due.is("P14 one more", 1, x.days(1));
        due.is("P14 clock then", 79, x.rule(3));
        due.is("P14 done", 3, x.rule(5));
        due.is("P14 above", BAD, x.days(31));
        due.is("P14 below", BAD, x.days(-1));
        // Nothing is read any more: only DAY goes on.
        for (int i = 0; i < 33; i++) {
            due.is("P14 thirty", 0, x.days(30));
        }
        due.is("P14 992", 992, x.rule(4));
        due.is("P14 to 1000", FULL, x.days(8));
        due.is("P14 to 999", 0, x.days(7));
        due.is("P14 999", 999, x.rule(4));
        due.is("P14 full", FULL, x.days(1));
        due.is("P14 none is well", 0, x.days(0));
        due.is("P14 clock stays", 79, x.rule(3));
        due.is("P15 by days has no bound", 60, x.runs(60, 2));
        // He WANTS what he HAD: he WANTS none then, and climbs no more.
        UpperSteps y = Due.told("book 0 5 0;guest 0 5;");
        due.is("P14 leads to itself", 1, y.days(1));
        due.is("P14 wants none then", NONE, y.reader(0, 1));
        y.alter(0, 1, 0);
        due.is("P14 had it", 0, y.days(1));
        due.is("P14 is done", 1, y.rule(5));
        due.is("P14 no time", 10, y.rule(3));
        // All eight in a DAY, and the round is closed in it.
        UpperSteps z = Due.told("book 0 0 1;book 0 0 2;book 0 0 3;book 0 0 4;book 0 0 5;book 0 0 6;"
                + "book 0 0 7;book 0 0 0;guest 0 1;");
        due.is("P14 eight", 8, z.days(1));
        due.is("P14 the round is closed", 1, z.rule(5));
    }

    private static void p15Runs() {
        UpperSteps x = Due.told(THREE);
        int[][] at = {{0, 0, 0, NONE}, {4, 61, 2, NONE}, {5, 79, 3, NONE}, {5, 79, 4, NONE}};
        for (int n = 0; n < 4; n++) {
            for (int what = 0; what < 4; what++) {
                due.is("P15 runs " + n + " " + what, at[n][what], x.runs(n, what));
            }
        }
        due.is("P15 sixty", 61, x.runs(60, 2));
        due.is("P15 above", BAD, x.runs(61, 0));
        due.is("P15 below", BAD, x.runs(-1, 0));
        due.is("P15 what", BAD, x.runs(1, 4));
        due.is("P15 what below", BAD, x.runs(1, -1));
        due.is("P15 nothing is changed", 0, x.rule(4));
        x.alter(2, 2, 18);
        due.is("P15 all done", NONE, x.runs(1, 3));
        due.is("P15 all done by 2", 2, x.runs(2, 3));
        due.is("P15 all done first", 2, x.runs(60, 3));
        for (int r = 0; r < 3; r++) {
            x.alter(r, 1, 9);
        }
        due.is("P15 all done now", 0, x.runs(0, 3));
        due.is("P15 all done now of 60", 0, x.runs(60, 3));
    }

    private static void p16Ahead() {
        UpperSteps x = Due.told(THREE);
        due.is("P16 now", 0, x.ahead(0, 0, 0));
        due.is("P16 had now", 0, x.ahead(0, 0, 1));
        due.is("P16 one", 2, x.ahead(0, 1, 0));
        due.is("P16 had one", 3, x.ahead(0, 1, 1));
        due.is("P16 two", NONE, x.ahead(0, 2, 0));
        due.is("P16 had two", 7, x.ahead(0, 2, 1));
        due.is("P16 sixty", 2, x.ahead(2, 60, 0));
        due.is("P16 had sixty", 0, x.ahead(2, 60, 1));
        due.is("P16 above", BAD, x.ahead(0, 61, 0));
        due.is("P16 below", BAD, x.ahead(0, -1, 0));
        due.is("P16 nobody", BAD, x.ahead(3, 1, 0));
        due.is("P16 what", BAD, x.ahead(0, 1, 2));
        due.is("P16 what below", BAD, x.ahead(0, 1, -1));
        due.is("P16 nothing is changed", 0, x.reader(0, 1));
    }

    private static void p17Done() {
        UpperSteps x = Due.told(THREE + "guest 9 1;");
        due.is("P17 two", 2, x.done(0));
        due.is("P17 one", 1, x.done(1));
        due.is("P17 never", NONE, x.done(2));
        due.is("P17 now", 0, x.done(3));
        due.is("P17 nobody", BAD, x.done(4));
        due.is("P17 below", BAD, x.done(-1));
        x.fetch(2, 2);
        due.is("P17 he had it", 1, x.done(2));
        due.is("P17 nothing is changed", 2, x.reader(2, 1));
        UpperSteps y = Due.told("book 0 9 1;book 0 9 2;book 0 9 3;book 0 9 4;book 0 9 5;book 0 9 6;"
                + "book 0 9 7;book 0 9 9;guest 0 9;");
        due.is("P17 a book a day", 8, y.done(0));
    }

    private static void p18Vertigo() {
        UpperSteps x = Due.told(THREE + "guest 9 1;");
        due.is("P18 third", 2, x.vertigo(0));
        due.is("P18 none", NONE, x.vertigo(1));
        due.is("P18 at once", 2, x.vertigo(2));
        due.is("P18 wants none", NONE, x.vertigo(3));
        due.is("P18 nobody", BAD, x.vertigo(4));
        due.is("P18 below", BAD, x.vertigo(-1));
        due.is("P18 nothing is changed", 0, x.reader(0, 1));
        x.alter(0, 2, 18);
        due.is("P18 just borne", NONE, x.vertigo(0));
        x.alter(0, 2, 8);
        due.is("P18 second", 1, x.vertigo(0));
        x.days(1);
        due.is("P18 in the day that comes", 2, x.vertigo(0));
    }

    private static void p19Order() {
        UpperSteps x = Due.told("book 7 0 9;book 0 0 9;guest 0 1;guest 1 1;guest 0 1;");
        due.is("P19 minutes", 7, x.order(0));
        due.is("P19 first", 1, x.order(10));
        due.is("P19 second", 0, x.order(11));
        due.is("P19 third", 2, x.order(12));
        due.is("P19 no such place", BAD, x.order(13));
        for (int what : new int[] {-1, 1, 9, 14, LEAST, MOST}) {
            due.is("P19 what", BAD, x.order(what));
        }
        due.is("P19 nothing is changed", 0, x.rule(3));
        due.is("P19 as it is", 21, x.runs(1, 1));
        x.roll(7);
        due.is("P19 from 7", 7, x.order(0));
        due.is("P19 from 7 first", 0, x.order(10));
        due.is("P19 from 7 second", 2, x.order(11));
        due.is("P19 from 7 third", 1, x.order(12));
        UpperSteps y = Due.told("book 0 0 9;maid 0 1;maid 0 1;maid 9 1;maid 0 1;");
        due.is("P19 all alike", 6, y.order(0));
        for (int i = 0; i < 4; i++) {
            due.is("P19 of several the first", i, y.order(10 + i));
        }
        UpperSteps z = Due.told("book 6 0 9;book 4 0 9;book 2 0 9;book 0 0 9;"
                + "guest 0 1;guest 1 1;guest 2 1;guest 3 1;");
        due.is("P19 backwards", 6, z.order(0));
        for (int i = 0; i < 4; i++) {
            due.is("P19 backwards " + i, 3 - i, z.order(10 + i));
        }
    }

    private static void p20Start() {
        UpperSteps x = Due.told(THREE);
        due.is("P20 bay", 2, x.start(1, 0));
        due.is("P20 minutes", 59, x.start(1, 1));
        due.is("P20 two days", 77, x.start(2, 1));
        due.is("P20 no day", 0, x.start(0, 0));
        due.is("P20 no minutes", 0, x.start(0, 1));
        due.is("P20 sixty", 2, x.start(60, 0));
        due.is("P20 above", BAD, x.start(61, 0));
        due.is("P20 below", BAD, x.start(-1, 0));
        due.is("P20 what", BAD, x.start(1, 2));
        due.is("P20 what below", BAD, x.start(1, -1));
        due.is("P20 nothing is changed", 4, x.rule(2));
        UpperSteps y = Due.told("book 7 2 9;lord 0 4;");
        due.is("P20 at the end", 7, y.start(1, 0));
        due.is("P20 climb alone", 2, y.start(1, 1));
    }

    private static void p21Swap() {
        UpperSteps x = Due.told(THREE);
        due.is("P21 pair", 12, x.swap(1, 0));
        due.is("P21 books", 5, x.swap(1, 1));
        due.is("P21 no day", NONE, x.swap(0, 0));
        due.is("P21 no day's books", NONE, x.swap(0, 1));
        due.is("P21 above", BAD, x.swap(61, 0));
        due.is("P21 below", BAD, x.swap(-1, 0));
        due.is("P21 what", BAD, x.swap(1, 2));
        due.is("P21 what below", BAD, x.swap(1, -1));
        due.is("P21 nothing is changed", 3, x.book(0, 1));
        UpperSteps y = Due.told("book 0 9 9;book 1 1 9;book 2 1 9;guest 0 5;");
        due.is("P21 of several the least", 1, y.swap(60, 0));
        due.is("P21 one book", 1, y.swap(60, 1));
        y.alter(0, 2, 9);
        due.is("P21 no more than as it is", NONE, y.swap(60, 0));
        UpperSteps z = Due.told("book 0 0 9;guest 9 1;");
        due.is("P21 but one book", NONE, z.swap(60, 0));
    }

    private static void p22Knee() {
        UpperSteps x = Due.told(THREE + "guest 9 1;");
        due.is("P22 book", 1, x.knee(0, 0));
        due.is("P22 days", 1, x.knee(0, 1));
        due.is("P22 lord", 2, x.knee(2, 0));
        due.is("P22 lord's days", 1, x.knee(2, 1));
        due.is("P22 done now", 0, x.knee(3, 0));
        due.is("P22 done now days", 0, x.knee(3, 1));
        due.is("P22 maid, of several the first", 0, x.knee(1, 0));
        due.is("P22 nobody", BAD, x.knee(4, 0));
        due.is("P22 below", BAD, x.knee(-1, 0));
        due.is("P22 what", BAD, x.knee(0, 2));
        due.is("P22 what below", BAD, x.knee(0, -1));
        due.is("P22 nothing is changed", 6, x.book(1, 1));
        UpperSteps y = Due.told("book 0 9 1;book 0 9 9;guest 0 5;");
        due.is("P22 by none", NONE, y.knee(0, 0));
        due.is("P22 by none days", NONE, y.knee(0, 1));
        due.is("P22 no books", NONE, Due.told("guest 9 1;").knee(0, 0));
    }

    private static void p23Need() {
        UpperSteps x = Due.told(THREE + "guest 9 1;");
        due.is("P23 in one", 18, x.need(0, 1));
        due.is("P23 in two", 9, x.need(0, 2));
        due.is("P23 in sixty", 9, x.need(0, 60));
        due.is("P23 at once", NONE, x.need(0, 0));
        due.is("P23 lord", 18, x.need(2, 1));
        due.is("P23 maid in one", 6, x.need(1, 1));
        due.is("P23 maid in two", 4, x.need(1, 2));
        due.is("P23 done now", 1, x.need(3, 0));
        due.is("P23 nobody", BAD, x.need(4, 1));
        due.is("P23 above", BAD, x.need(0, 61));
        due.is("P23 below", BAD, x.need(0, -1));
        due.is("P23 nothing is changed", 12, x.reader(0, 2));
        String seven = "book 0 9 1;book 0 9 2;book 0 9 3;book 0 9 4;book 0 9 5;book 0 9 9;";
        UpperSteps y = Due.told(seven + "lord 0 1;");
        due.is("P23 108 is too much", NONE, y.need(0, 1));
        due.is("P23 in halves", 54, y.need(0, 2));
        y.shelve(5, 1, 4);
        due.is("P23 98", 98, y.need(0, 1));
        UpperSteps z = Due.told("book 0 9 1;book 0 9 2;book 0 9 3;book 0 9 4;book 0 9 5;book 0 9 6;book 0 9 7;"
                + "book 0 6 9;nephew 0 1;");
        due.is("P23 98 of a nephew", 98, z.need(0, 1));
        z.alter(0, 0, 0);
        due.is("P23 69 of a guest", 69, z.need(0, 1));
    }

    private static void p24High() {
        UpperSteps x = Due.told(THREE);
        due.is("P24 lord", 8, x.high(2, 2, 1));
        due.is("P24 guest", 9, x.high(1, 0, 1));
        due.is("P24 last of guest", 3, x.high(2, 0, 1));
        due.is("P24 last of guest in two", 9, x.high(2, 0, 2));
        due.is("P24 never", NONE, x.high(0, 2, 60));
        due.is("P24 no day", NONE, x.high(2, 2, 0));
        due.is("P24 no book", BAD, x.high(3, 0, 1));
        due.is("P24 book below", BAD, x.high(-1, 0, 1));
        due.is("P24 nobody", BAD, x.high(0, 3, 1));
        due.is("P24 above", BAD, x.high(0, 0, 61));
        due.is("P24 below", BAD, x.high(0, 0, -1));
        due.is("P24 nothing is changed", 9, x.book(2, 1));
        x.fetch(2, 2);
        due.is("P24 he had it", 9, x.high(2, 2, 0));
        UpperSteps y = Due.told("book 0 9 1;book 0 0 9;guest 0 5;");
        due.is("P24 behind another", NONE, y.high(1, 0, 60));
        y.shelve(0, 1, 5);
        due.is("P24 at the knee alone", 0, y.high(1, 0, 1));
        due.is("P24 higher by the second day", 5, y.high(1, 0, 2));
    }

    private static final String TWO_DAYS = "book 0 5 1;book 0 5 9;guest 0 5;";

    private static void p25Luck() {
        UpperSteps x = Due.told(TWO_DAYS);
        // 20, 27 or 34 minutes.
        luck(x, 5, 2, 19, 0, 1);
        luck(x, 5, 2, 20, 1, 4);
        luck(x, 5, 2, 26, 1, 4);
        luck(x, 5, 2, 27, 3, 4);
        luck(x, 5, 2, 34, 1, 1);
        luck(x, 3, 2, 20, 49, 100);
        luck(x, 3, 2, 33, 91, 100);
        luck(x, 0, 2, 20, 1, 1);
        luck(x, 10, 2, 33, 0, 1);
        luck(x, 10, 2, 9999, 1, 1);
        luck(x, 5, 0, 0, 1, 1);
        luck(x, 4, 1, 10, 3, 5);
        luck(x, 5, 8, 27, 3, 4);
        due.is("P25 v above", BAD, x.luck(11, 1, 1, 0));
        due.is("P25 v below", BAD, x.luck(-1, 1, 1, 0));
        due.is("P25 n above", BAD, x.luck(5, 9, 1, 0));
        due.is("P25 n below", BAD, x.luck(5, -1, 1, 0));
        due.is("P25 most above", BAD, x.luck(5, 1, 10000, 0));
        due.is("P25 most below", BAD, x.luck(5, 1, -1, 0));
        due.is("P25 what", BAD, x.luck(5, 1, 1, 2));
        due.is("P25 what below", BAD, x.luck(5, 1, 1, -1));
        due.is("P25 nothing is changed", 0, x.rule(3));
        UpperSteps y = Due.told("book 0 9 1;book 0 9 2;book 0 9 3;book 0 9 4;book 0 9 5;book 0 9 6;"
                + "book 0 9 7;book 0 9 9;guest 0 9;");
        luck(y, 3, 8, 8 * 18, 5764801, 100000000);
        luck(y, 7, 8, 8 * 18 + 7 * 7, 100000000 - 5764801, 100000000);
    }

    private static void luck(UpperSteps x, int v, int n, int most, long above, long below) {
        String call = "luck(" + v + ", " + n + ", " + most + ")";
        due.is("P25 " + call, above, x.luck(v, n, most, 0));
        due.is("P25 " + call + " by", below, x.luck(v, n, most, 1));
    }

    private static void p26Mean() {
        UpperSteps x = Due.told(TWO_DAYS);
        mean(x, 5, 2, 27, 1);
        mean(x, 3, 2, 121, 5);
        mean(x, 0, 2, 20, 1);
        mean(x, 10, 2, 34, 1);
        mean(x, 5, 0, 0, 1);
        mean(x, 5, 1, 27, 2);
        mean(x, 1, 8, 107, 5);
        due.is("P26 v above", BAD, x.mean(11, 1, 0));
        due.is("P26 v below", BAD, x.mean(-1, 1, 0));
        due.is("P26 n above", BAD, x.mean(5, 9, 0));
        due.is("P26 n below", BAD, x.mean(5, -1, 0));
        due.is("P26 what", BAD, x.mean(5, 1, 2));
        due.is("P26 what below", BAD, x.mean(5, 1, -1));
        due.is("P26 nothing is changed", 0, x.rule(3));
        mean(Due.told("book 0 0 9;guest 0 1;steps 7;"), 5, 1, 7, 1);
        mean(Due.told("book 7 0 9;guest 0 1;"), 5, 1, 7, 2);
    }

    private static void mean(UpperSteps x, int v, int n, long above, long below) {
        String call = "mean(" + v + ", " + n + ")";
        due.is("P26 " + call, above, x.mean(v, n, 0));
        due.is("P26 " + call + " by", below, x.mean(v, n, 1));
    }

    private static void p27See() {
        UpperSteps x = Due.told(THREE);
        due.is("P27 days below", BAD, x.see(-1, 0, 0));
        due.is("P27 days above", BAD, x.see(21, 0, 0));
        due.is("P27 nobody", BAD, x.see(0, 3, 0));
        due.is("P27 below", BAD, x.see(0, -1, 0));
        due.is("P27 8", BAD, x.see(0, 0, 8));
        due.is("P27 10", BAD, x.see(0, 0, 10));
        due.is("P27 most", BAD, x.see(0, 0, MOST));
        due.is("P27 least", BAD, x.see(0, 0, LEAST));
        due.is("P27 book below", BAD, x.see(0, 0, -4));
        due.is("P27 none came", 0, x.count(0));
        for (int i = 1; i <= 6; i++) {
            due.is("P27 see " + i, i, x.see(i % 2 == 0 ? 20 : 0, 0, i % 2 == 0 ? 9 : 0));
        }
        due.is("P27 full", FULL, x.see(0, 0, 0));
        due.is("P27 bad is ahead", BAD, x.see(21, 0, 0));
        due.is("P27 six", 6, x.count(0));
        due.is("P27 all are so", 1, x.kinds(0) & 1);
    }

    private static void p27SeeBookThatIsNotThere() {
        UpperSteps x = Due.told("book 0 6 9;guest 0 6;maid 9 1;");
        for (int w = 0; w <= 7; w++) {
            x.forget(0);
            due.is("P27 seen " + w, 1, x.see(0, 0, w));
            due.is("P27 kinds by " + w, w == 0 ? 15 : 0, x.kinds(0));
            due.is("P27 heights by " + w, w == 0 ? 1023 : 0, x.heights(0));
        }
        due.is("P27 nothing to ask", NONE, x.ask(0, 0));
        x.keep(0);
        x.forget(0);
        x.back(0);
        due.is("P27 in an image", 0, x.kinds(1));
        x = Due.told("guest 9 6;");
        due.is("P27 without books", 1, x.see(0, 0, 0));
        due.is("P27 wants none", 0, x.kinds(0));
        due.is("P27 alter asks for the book", BAD, x.alter(0, 1, 0));
        due.is("P27 nobody stays bad", BAD, x.see(0, 1, 0));
    }

    private static void p28Forget() {
        UpperSteps x = Due.told("book 0 6 9;guest 0 6;");
        due.is("P28 none", 0, x.forget(0));
        due.is("P28 more than none", BAD, x.forget(1));
        x.see(1, 0, 9);
        x.see(1, 0, 0);
        due.is("P28 both can not be", 0, x.kinds(0));
        due.is("P28 above", BAD, x.forget(3));
        due.is("P28 below", BAD, x.forget(-1));
        due.is("P28 all", 2, x.forget(2));
        due.is("P28 the first", 2, x.forget(1));
        due.is("P28 the first stays", 9, x.kinds(0));
        due.is("P28 the next", 2, x.see(0, 0, 0));
        due.is("P28 none again", 2, x.forget(0));
        due.is("P28 all kinds", 15, x.kinds(0));
    }

    private static void p29Kinds() {
        UpperSteps x = Due.told("book 0 6 9;guest 0 6;lord 0 12;");
        due.is("P29 nothing seen", 15, x.kinds(0));
        x.see(1, 0, 9);
        due.is("P29 fetched", 9, x.kinds(0));
        due.is("P29 of the other", 15, x.kinds(1));
        x.see(2, 1, 0);
        due.is("P29 the lord would have", 0, x.kinds(0));
        due.is("P29 the other would not", 0, x.kinds(1));
        x.forget(0);
        x.see(20, 0, 0);
        due.is("P29 not fetched", 6, x.kinds(0));
        x.days(3);
        due.is("P29 from now on", 0, x.kinds(0));
        due.is("P29 nobody", BAD, x.kinds(2));
        due.is("P29 below", BAD, x.kinds(-1));
        due.is("P29 kind stays", 0, x.reader(0, 0));
    }

    private static void p30Heights() {
        UpperSteps x = Due.told("book 0 6 9;book 0 0 9;guest 0 6;");
        due.is("P30 nothing seen", 1023, x.heights(0));
        x.see(1, 0, 9);
        due.is("P30 fetched", 127, x.heights(0));
        due.is("P30 of another", 1023, x.heights(1));
        x.forget(0);
        x.see(1, 0, 0);
        due.is("P30 not fetched", 896, x.heights(0));
        due.is("P30 not of another", 0, x.heights(1));
        x.see(0, 0, 0);
        due.is("P30 now", 896, x.heights(0));
        x.see(0, 0, 1);
        due.is("P30 not now", 0, x.heights(0));
        due.is("P30 no book", BAD, x.heights(2));
        due.is("P30 below", BAD, x.heights(-1));
        due.is("P30 height stays", 6, x.book(0, 1));
    }

    private static void p31Ask() {
        UpperSteps x = Due.told("book 0 6 9;guest 0 6;guest 0 4;guest 0 3;");
        due.is("P31 behind a day the second", 11, x.ask(0, 0));
        due.is("P31 five are left", 5, x.ask(0, 1));
        x.see(1, 1, 9);
        due.is("P31 then the third", 12, x.ask(0, 0));
        due.is("P31 four are left", 4, x.ask(0, 1));
        x.see(1, 2, 0);
        due.is("P31 but one", 16, x.heights(0));
        due.is("P31 none", NONE, x.ask(0, 0));
        due.is("P31 none left", NONE, x.ask(0, 1));
        x.see(1, 2, 9);
        due.is("P31 of no height", NONE, x.ask(0, 0));
        due.is("P31 no book", BAD, x.ask(1, 0));
        due.is("P31 below", BAD, x.ask(-1, 0));
        due.is("P31 what", BAD, x.ask(0, 2));
        due.is("P31 what below", BAD, x.ask(0, -1));
        // Behind a day he WANTS none (HEIGHTS 0 to 2), the last (3, 4), the second (5 to 9).
        UpperSteps y = Due.told("book 0 5 1;book 0 5 2;book 0 2 9;guest 0 9;");
        due.is("P31 parts by the book", 10, y.ask(0, 0));
        due.is("P31 parts of three, two, five", 5, y.ask(0, 1));
        due.is("P31 nobody to ask", NONE, Due.told("book 0 6 9;").ask(0, 0));
    }

    private static void p32Drift() {
        UpperSteps x = Due.told("book 5 0 9;guest 0 1;");
        // Seed 0 becomes 12345: 0 is got.
        due.is("P32 books", 1, x.drift(0, 1, 0));
        due.is("P32 minutes", 5, x.drift(0, 1, 1));
        // He HAD nothing ahead of each.
        due.is("P32 sixty", 60, x.drift(0, 60, 0));
        int seed = 0;
        int minutes = 0;
        for (int i = 0; i < 60; i++) {
            seed = seed * 1103515245 + 12345;
            minutes += Math.abs(5 - (seed >> 22 & 7));
        }
        due.is("P32 sixty's minutes", minutes, x.drift(0, 60, 1));
        UpperSteps three = Due.told(THREE);
        due.is("P32 7, 9", 13, three.drift(7, 9, 0));
        due.is("P32 7, 9 minutes", 176, three.drift(7, 9, 1));
        due.is("P32 nothing is changed", 0, three.rule(3));
        due.is("P32 steps stay", 4, three.rule(2));
        due.is("P32 wants stays", 0, three.reader(0, 1));
        due.is("P32 above", BAD, x.drift(0, 61, 0));
        due.is("P32 below", BAD, x.drift(0, 0, 0));
        due.is("P32 what", BAD, x.drift(0, 1, 2));
        due.is("P32 what below", BAD, x.drift(0, 1, -1));
        due.is("P32 no readers", STATE, Due.told("book 0 0 9;").drift(0, 1, 0));
        due.is("P32 no books", STATE, Due.told("guest 9 1;").drift(0, 1, 0));
        due.is("P32 bad is ahead", BAD, new UpperSteps().drift(0, 0, 0));
    }

    private static void p33And34Images() {
        UpperSteps x = Due.told(THREE);
        due.is("P33 below", BAD, x.keep(-1));
        due.is("P33 above", BAD, x.keep(2));
        due.is("P34 below", BAD, x.back(-1));
        due.is("P34 above", BAD, x.back(2));
        due.is("P34 none", STATE, x.back(0));
        x.see(1, 0, 2);
        x.days(1);
        due.is("P33 first", 0, x.keep(0));
        x.see(2, 0, 2);
        x.days(1);
        x.shelve(0, 0, 7);
        x.shelve(0, 1, 8);
        x.shelve(0, 2, 9);
        x.alter(2, 0, 1);
        x.alter(2, 1, 0);
        x.alter(2, 2, 99);
        x.forgets(1);
        x.roll(6);
        due.is("P33 second", 0, x.keep(1));
        due.is("P33 two", 2, x.count(1));
        Due.type(x, "abc");
        x.sheet(0, 0, 3);
        due.is("P34 clock", 61, x.back(0));
        int[] rules = {3, 3, 1, 61, 1, 2};
        for (int what = 0; what < 6; what++) {
            due.is("P34 rule " + what, rules[what], x.rule(what));
        }
        due.is("P34 seen", 1, x.count(0));
        due.is("P34 bay", 2, x.book(0, 0));
        due.is("P34 height", 3, x.book(0, 1));
        due.is("P34 leads", 1, x.book(0, 2));
        due.is("P34 kind", 2, x.reader(2, 0));
        due.is("P34 wants", 2, x.reader(2, 1));
        due.is("P34 bears", 17, x.reader(2, 2));
        due.is("P34 had", 6, x.reader(1, 3));
        due.is("P34 tape stays", 3, x.count(2));
        due.is("P34 sheets stay", 3, x.count(3));
        due.is("P34 images stay", 2, x.count(1));
        x.days(1);
        due.is("P34 again", 61, x.back(0));
        due.is("P34 the other", 79, x.back(1));
        due.is("P34 the other's steps", 6, x.rule(2));
        due.is("P34 the other's seen", 2, x.count(0));
        due.is("P33 over the first", 1, x.keep(0));
        due.is("P34 the first is new", 79, x.back(0));
    }

    private static void p35Sheet() {
        UpperSteps x = new UpperSteps();
        due.is("P35 k below", BAD, x.sheet(-1, 0, 1));
        due.is("P35 k above", BAD, x.sheet(4, 0, 1));
        due.is("P35 lane below", BAD, x.sheet(0, -1, 1));
        due.is("P35 lane above", BAD, x.sheet(0, 3, 1));
        due.is("P35 n above", BAD, x.sheet(0, 0, 41));
        due.is("P35 size", -14, x.sheet(0, 0, -1));
        due.is("P35 least size", -14, x.sheet(0, 0, LEAST));
        due.is("P35 bad is ahead", BAD, x.sheet(0, 3, -1));
        due.is("P35 nothing still", NONE, x.count(3));
        due.is("P35 empty row", 1, x.sheet(0, 0, 0));
        due.is("P35 no cells", 0, x.count(3));
        due.is("P35 forty", 1, x.sheet(0, 2, 40));
        due.is("P35 forty cells", 40, x.count(3));
        due.is("P35 refused", -14, x.sheet(0, 1, -5));
        due.is("P35 forty stay", 40, x.count(3));
        UpperSteps y = Due.told("book 0 1 9;book 0 2 9;guest 0 9;");
        y.sheet(1, 0, 2);
        y.lay(1, 1, 1);
        due.is("P35 another row", 1, y.sheet(1, 0, 2));
        y.read(1, 0, 0, 1);
        due.is("P35 of cells 0", 1, y.reader(0, 3));
    }

    private static void p36Lay() {
        UpperSteps x = Due.told("book 0 1 9;guest 0 9;");
        due.is("P36 k below", BAD, x.lay(-1, 0, 0));
        due.is("P36 k above", BAD, x.lay(4, 0, 0));
        due.is("P36 nothing", -11, x.lay(3, 0, 0));
        due.is("P36 nothing is ahead of index", -11, x.lay(3, -1, 0));
        for (int lane = 0; lane < 3; lane++) {
            x.sheet(3, lane, 2);
            due.is("P36 below", -12, x.lay(3, -1, 0));
            due.is("P36 above", -12, x.lay(3, 2, 0));
            due.is("P36 most", -12, x.lay(3, MOST, 0));
            due.is("P36 laid", 1, x.lay(3, 1, 256));
            x.forgets(0);
            due.is("P36 256 as lane " + lane, lane == 0 ? 1 : -20, x.read(3, lane, 0, 1));
            due.is("P36 laid", 1, x.lay(3, 1, 65536));
            x.forgets(0);
            due.is("P36 65536 as lane " + lane, lane < 2 ? 1 : -20, x.read(3, lane, 0, 1));
            due.is("P36 laid", 1, x.lay(3, 1, 255));
            x.forgets(0);
            due.is("P36 255 as lane " + lane, -20, x.read(3, lane, 0, 1));
            due.is("P36 laid", 1, x.lay(3, 1, LEAST));
            due.is("P36 least as lane " + lane, lane < 2 ? 1 : -20, x.read(3, lane, 0, 1));
        }
        x.sheet(2, 0, 0);
        due.is("P36 no cells", -12, x.lay(2, 0, 0));
    }

    private static void p37Read() {
        UpperSteps x = Due.told(THREE);
        x.sheet(1, 1, 7);
        int[] cells = {2, 2, 0, 1, 1, 0, 1};
        for (int i = 0; i < cells.length; i++) {
            x.lay(1, i, cells[i]);
        }
        due.is("P37 k below", BAD, x.read(-1, 1, 0, 1));
        due.is("P37 k above", BAD, x.read(4, 1, 0, 1));
        due.is("P37 lane below", BAD, x.read(1, -1, 0, 1));
        due.is("P37 lane above", BAD, x.read(1, 3, 0, 1));
        due.is("P37 n below", BAD, x.read(1, 1, 0, -1));
        due.is("P37 n above", BAD, x.read(1, 1, 0, 21));
        due.is("P37 none", 0, x.read(1, 1, 0, 0));
        due.is("P37 two", 2, x.read(1, 1, 0, 2));
        due.is("P37 clock", 3 + 10 + 4 + 12, x.rule(3));
        due.is("P37 steps", 5, x.rule(2));
        due.is("P37 no fault", 0, x.torn());
        due.is("P37 had it", -20, x.read(1, 1, 0, 2));
        due.is("P37 third", 1, x.read(1, 1, 4, 2));
        due.is("P37 fourth is not whole", 2, x.torn());
        due.is("P37 third came", 1, x.reader(1, 3));
        for (int r = 0; r < 3; r++) {
            x.forgets(r);
        }
        due.is("P37 all that is whole", 3, x.read(1, 1, 0, 20));
        due.is("P37 torn", 2, x.torn());
        for (int r = 0; r < 3; r++) {
            x.forgets(r);
        }
        int clock = x.rule(3);
        x.lay(1, 4, 3);
        due.is("P37 the third is refused", -22, x.read(1, 1, 0, 20));
        due.is("P37 none came", 0, x.book(2, 3));
        due.is("P37 clock stays", clock, x.rule(3));
        x.lay(1, 4, -1);
        due.is("P37 nobody", -22, x.read(1, 1, 0, 3));
        due.is("P37 f below", 0, x.read(1, 1, -1, 2));
        due.is("P37 f above", 0, x.read(1, 1, 7, 2));
        due.is("P37 f most", 0, x.read(1, 1, MOST, 2));
        due.is("P37 f least", 0, x.read(1, 1, LEAST, 2));
        due.is("P37 f at the last cell", 0, x.read(1, 1, 6, 1));
        due.is("P37 clock stays still", clock, x.rule(3));
    }

    private static void p38Torn() {
        UpperSteps x = Due.told(THREE);
        x.sheet(0, 0, 4);
        due.is("P38 none", 0, x.torn());
        x.read(2, 0, 0, 1);
        due.is("P38 null", 1, x.torn());
        x.read(0, 0, 4, 1);
        due.is("P38 index", 2, x.torn());
        x.read(0, 2, 0, 1);
        due.is("P38 cast", 3, x.torn());
        x.read(0, 1, 99, 1);
        due.is("P38 cast is ahead of index", 3, x.torn());
        x.read(2, 1, -1, 1);
        due.is("P38 null is ahead of all", 1, x.torn());
        x.read(9, 0, 0, 1);
        due.is("P38 bad stays", 1, x.torn());
        due.is("P38 refused", -21, x.read(0, 0, 0, 2));
        due.is("P38 refused stays", 1, x.torn());
        due.is("P38 came", 1, x.read(0, 0, 0, 1));
        due.is("P38 then none", 0, x.torn());
        x.read(0, 0, -1, 1);
        x.sheet(0, 0, -1);
        x.lay(1, 0, 0);
        due.is("P38 of read alone", 2, x.torn());
        x.read(0, 0, 0, 0);
        due.is("P38 nothing read", 0, x.torn());
    }

    private static void p39Count() {
        UpperSteps x = Due.told(THREE);
        int[] at = {0, 0, 0, NONE, 18, 38};
        for (int what = 0; what < 6; what++) {
            due.is("P39 count " + what, at[what], x.count(what));
        }
        x.see(0, 0, 0);
        x.keep(1);
        x.feed(32);
        x.sheet(0, 2, 3);
        x.sheet(1, 2, 9);
        x.shelve(0, 1, 0);
        x.alter(0, 2, 99);
        int[] then = {1, 1, 1, 3, 15, 125};
        for (int what = 0; what < 6; what++) {
            due.is("P39 count then " + what, then[what], x.count(what));
        }
        for (int what : new int[] {-1, 6, LEAST, MOST}) {
            due.is("P39 bad", BAD, x.count(what));
        }
    }
}
