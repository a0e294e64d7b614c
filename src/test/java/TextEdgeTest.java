/** Boundary cases of the promises 1 to 8: a new object, the text, what can be looked at. */
public final class TextEdgeTest {
    private static final int BAD = Edge.BAD, STATE = Edge.STATE, FULL = Edge.FULL, NONE = Edge.NONE;
    private static final int LEAST = Edge.LEAST, MOST = Edge.MOST;
    private static final String EIGHT = "book 0 0 1;book 1 1 2;book 2 2 3;book 3 3 4;book 4 4 5;book 5 5 6;book 6 6 7;"
            + "book 7 9 9;";
    private static final Edge edge = new Edge();

    public static void main(String[] args) {
        p01NoBooksNobody();
        p01SheetsOfNothing();
        p02Byte();
        p02HowMany();
        p02Full();
        p03FirstBytes();
        p03Bad();
        p04EmptyThen();
        p04HowManyLines();
        p04Place();
        p04Stays();
        p05Fault();
        p06Books();
        p06Readers();
        p06Steps();
        p06Clock();
        p06Day();
        p06Done();
        p06Bad();
        p07Book();
        p07BayAndHeight();
        p07Leads();
        p07WhoHad();
        p07Bad();
        p08Reader();
        p08KindAndBears();
        p08Wants();
        p08Had();
        p08Minutes();
        p08Dizzy();
        p08Bad();
        edge.finish("TextEdgeTest", 1, 8);
    }

    private static void p01NoBooksNobody() {
        edge.test(1, "No BOOKS, nobody");
        UpperSteps x = new UpperSteps();
        for (int what = 0; what <= 5; what++) {
            edge.is("rule " + what, 0, x.rule(what));
        }
        edge.is("book 0", BAD, x.book(0, 0));
        edge.is("reader 0", BAD, x.reader(0, 0));
        edge.is("fetch", BAD, x.fetch(0, 0));
        edge.is("drift", STATE, x.drift(0, 1, 0));
        edge.is("a day of nobody", 0, x.days(1));
        edge.is("all heights", 0, x.count(4));
        edge.is("all that is borne", 0, x.count(5));
        edge.is("told", 2, Due.tell(x, "book 0 0 9;guest 9 1;"));
        edge.is("book 0 then", 0, x.book(0, 0));
        edge.is("reader 0 then", 0, x.reader(0, 0));
    }

    private static void p01SheetsOfNothing() {
        edge.test(1, "SHEETS of nothing");
        UpperSteps x = new UpperSteps();
        edge.is("cells of sheet 0", NONE, x.count(3));
        for (int k = 0; k < 4; k++) {
            edge.is("nothing to lay on", -11, x.lay(k, 0, 0));
            edge.is("nothing to read", 0, x.read(k, 0, 0, 1));
            edge.is("NULL", 1, x.torn());
            edge.is("no cells are not nothing", 1, x.sheet(k, 0, 0));
            edge.is("INDEX to lay on", -12, x.lay(k, 0, 0));
            edge.is("no cells to read", 0, x.read(k, 0, 0, 1));
            edge.is("INDEX", 2, x.torn());
        }
        edge.is("cells of sheet 0 then", 0, x.count(3));
    }

    private static void p02Byte() {
        edge.test(2, "A byte (0 to 127)", "BAD");
        UpperSteps x = new UpperSteps();
        edge.is("-1", BAD, x.feed(-1));
        edge.is("128", BAD, x.feed(128));
        // As bytes these would be 0, 32 and 115.
        edge.is("256", BAD, x.feed(256));
        edge.is("288", BAD, x.feed(288));
        edge.is("115 - 256", BAD, x.feed(115 - 256));
        edge.is("least", BAD, x.feed(LEAST));
        edge.is("most", BAD, x.feed(MOST));
        edge.is("nothing came", 0, x.count(2));
        edge.is("0", 1, x.feed(0));
        edge.is("127", 2, x.feed(127));
        edge.refused("feed(128)", BAD, y -> y.feed(128));
        edge.refused("feed(-1)", BAD, y -> y.feed(-1));
    }

    private static void p02HowMany() {
        edge.test(2, "comes behind THE TAPE: how many it has");
        UpperSteps x = new UpperSteps();
        String text = "steps 6;";
        for (int i = 0; i < text.length(); i++) {
            edge.is("byte " + i, i + 1, x.feed(text.charAt(i)));
            edge.is("it has", i + 1, x.count(2));
        }
        edge.is("told in this order", 1, x.text());
        edge.is("steps", 6, x.rule(2));
        edge.is("behind an empty tape", 1, x.feed(32));
    }

    private static UpperSteps fullTape() {
        UpperSteps x = Due.told(Edge.THREE);
        Due.type(x, " ".repeat(152) + "steps 5;");
        return x;
    }

    private static void p02Full() {
        edge.test(2, "FULL: more than 160");
        UpperSteps x = new UpperSteps();
        for (int i = 1; i <= 159; i++) {
            x.feed(32);
        }
        edge.is("the 160th", 160, x.feed('x'));
        edge.is("the 161st", FULL, x.feed(32));
        edge.is("BAD is ahead of FULL", BAD, x.feed(128));
        edge.is("BAD below is ahead of FULL", BAD, x.feed(-1));
        edge.is("160 still", 160, x.end(159));
        edge.is("place again", 160, x.feed('y'));
        edge.is("none again", FULL, x.feed('y'));
        edge.is("the 160th is told of", -169, x.text());
        edge.refused("feed at 160", FULL, TextEdgeTest::fullTape, y -> y.feed(32));
        edge.refused("feed(128) at 160", BAD, TextEdgeTest::fullTape, y -> y.feed(128));
    }

    private static void p03FirstBytes() {
        edge.test(3, "THE TAPE keeps its first n bytes: how many it had");
        UpperSteps x = new UpperSteps();
        edge.is("none of none", 0, x.end(0));
        Due.type(x, "steps 2;steps 3;");
        edge.is("all", 16, x.end(16));
        edge.is("but the last", 16, x.end(15));
        edge.is("the first eight", 15, x.end(8));
        edge.is("it has", 8, x.count(2));
        edge.is("told", 1, x.text());
        edge.is("the first", 2, x.rule(2));
        Due.type(x, "x");
        edge.is("none of one", 1, x.end(0));
        edge.is("it has none", 0, x.count(2));
        edge.is("what comes is the first", 1, x.feed(';'));
        for (int i = 2; i <= 160; i++) {
            x.feed(32);
        }
        edge.is("all of 160", 160, x.end(160));
    }

    private static void p03Bad() {
        edge.test(3, "BAD");
        UpperSteps x = new UpperSteps();
        edge.bounds("end of an empty tape", 0, 0, x::end);
        edge.is("-1", BAD, Edge.lived().end(-1));
        edge.is("one more than it has", BAD, Edge.lived().end(9));
        edge.is("as many as it has", 8, Edge.lived().end(8));
        edge.is("161 of 160", BAD, fullTape().end(161));
        edge.is("160 of 160", 160, fullTape().end(160));
        edge.refused("end(-1)", BAD, y -> y.end(-1));
        edge.refused("end(9) of 8", BAD, y -> y.end(9));
        edge.refused("end(least)", BAD, y -> y.end(LEAST));
        edge.refused("end(most)", BAD, y -> y.end(MOST));
    }

    private static void p04EmptyThen() {
        edge.test(4, "THE TAPE (empty then) tells all");
        UpperSteps x = Edge.lived();
        edge.is("taken", 1, x.text());
        edge.is("empty behind a text that is taken", 0, x.count(2));
        edge.is("it told all", 0, x.rule(0) + x.rule(1));
        Due.type(x, "book 0 0 9;guest");
        edge.is("refused", -26, x.text());
        edge.is("empty behind a text that is refused", 0, x.count(2));
        edge.is("the empty tape tells nothing", 0, x.text());
        edge.is("full", -10, Due.tell(x, "x".repeat(160)));
        edge.is("empty behind a full one", 1, x.feed(32));
    }

    private static void p04HowManyLines() {
        edge.test(4, "how many lines");
        edge.is("none", 0, new UpperSteps().text());
        edge.is("blanks", 0, Due.tell(new UpperSteps(), " ".repeat(160)));
        edge.is("one", 1, Due.tell(new UpperSteps(), "steps 0;"));
        edge.is("two", 2, Due.tell(new UpperSteps(), "steps 0;guest 9 1;"));
        edge.is("most", 13, Due.tell(new UpperSteps(), EIGHT + "lord 9 1;maid 9 1;lord 9 1;maid 9 1;steps 7;"));
        edge.is("a line that is not whole", -14, Due.tell(new UpperSteps(), "book"));
    }

    private static void p04Place() {
        edge.test(4, "-10 less the place of its FAULT");
        edge.is("place 0", -10, Due.tell(new UpperSteps(), "X"));
        edge.is("place 1", -11, Due.tell(new UpperSteps(), " X"));
        edge.is("place 159", -169, Due.tell(new UpperSteps(), " ".repeat(159) + "X"));
        edge.is("place 159 of a name", -169, Due.tell(new UpperSteps(), " ".repeat(159) + "x"));
        edge.is("the end at 160", -170, Due.tell(new UpperSteps(), " ".repeat(155) + "steps"));
        edge.is("a book that there is not at 160", -170, Due.tell(new UpperSteps(), " ".repeat(151) + "maid 0 1;"));
    }

    private static void p04Stays() {
        edge.test(4, "that which was told stays");
        String[] texts = {"X", "x", "book 0 0 8;", "steps 1;steps 1;", EIGHT + "book 0 0 9;", "guest 0 1;"};
        for (int i = 0; i < texts.length; i++) {
            UpperSteps x = Edge.lived();
            x.end(0);
            UpperSteps like = Edge.lived();
            like.end(0);
            edge.is("refused " + texts[i], 1, Due.tell(x, texts[i]) <= -10 ? 1 : 0);
            edge.is("its fault", i + 1, x.fault());
            // FAULT 2 is what the other object has had.
            edge.is("the other's fault", 2, Due.tell(x, "x") == -10 ? x.fault() : 0);
            edge.is("all stays", 1, Edge.allOf(x).equals(Edge.allOf(like)) ? 1 : 0);
        }
    }

    private static void p05Fault() {
        edge.test(5, "The FAULT of the latest text(); 0.");
        UpperSteps x = new UpperSteps();
        edge.is("no text yet", 0, x.fault());
        String[] texts = {"X", "x", "book 0 0 8;", "steps 1;steps 1;", EIGHT + "book 0 0 9;", "guest 0 1;"};
        for (int i = 0; i < texts.length; i++) {
            Due.tell(x, texts[i]);
            edge.is("told " + texts[i], i + 1, x.fault());
        }
        Due.type(x, "steps 1;");
        x.days(1);
        edge.is("until the next text", 6, x.fault());
        edge.is("taken", 1, x.text());
        edge.is("none", 0, x.fault());
        Due.tell(x, "X");
        edge.is("one again", 1, x.fault());
        x.text();
        edge.is("none of an empty text", 0, x.fault());
    }

    private static void p06Books() {
        edge.test(6, "0 BOOKS");
        edge.is("none", 0, Due.told("guest 9 1;").rule(0));
        edge.is("one", 1, Due.told("book 0 0 9;").rule(0));
        edge.is("eight", 8, Due.told(EIGHT).rule(0));
    }

    private static void p06Readers() {
        edge.test(6, "1 READERS");
        edge.is("none", 0, Due.told("book 0 0 9;").rule(1));
        edge.is("one", 1, Due.told("guest 9 1;").rule(1));
        edge.is("four", 4, Due.told("guest 9 1;".repeat(4)).rule(1));
    }

    private static void p06Steps() {
        edge.test(6, "2 the BAY of THE STEPS");
        edge.is("not told", 0, Due.told("guest 9 1;").rule(2));
        edge.is("at 0", 0, Due.told("steps 0;").rule(2));
        edge.is("at 7", 7, Due.told("steps 7;").rule(2));
        UpperSteps x = Due.told("steps 7;");
        Due.tell(x, "guest 9 1;");
        edge.is("not told anew", 0, x.rule(2));
    }

    private static void p06Clock() {
        edge.test(6, "3 CLOCK");
        edge.is("at first", 0, Due.told(Edge.THREE).rule(3));
        UpperSteps x = Edge.clockAt(9999);
        edge.is("at most", 9999, x.rule(3));
        Due.tell(x, "steps 1;");
        edge.is("anew", 0, x.rule(3));
    }

    private static void p06Day() {
        edge.test(6, "4 DAY");
        UpperSteps x = Edge.dayAt(999);
        edge.is("at most", 999, x.rule(4));
        Due.tell(x, "steps 1;");
        edge.is("anew", 0, x.rule(4));
        x.days(1);
        edge.is("one more", 1, x.rule(4));
    }

    private static void p06Done() {
        edge.test(6, "5 who is DONE (bits)");
        edge.is("nobody", 0, new UpperSteps().rule(5));
        edge.is("none of four", 0, Due.told("book 0 0 9;" + "maid 0 1;".repeat(4)).rule(5));
        edge.is("all of four", 15, Due.told("maid 9 1;".repeat(4)).rule(5));
        UpperSteps x = Due.told("book 0 0 9;maid 9 1;maid 0 1;maid 0 1;maid 9 1;");
        edge.is("the first and the last", 9, x.rule(5));
        x.fetch(1, 0);
        edge.is("he still wants what he had", 9, x.rule(5));
        x.alter(1, 1, 9);
        edge.is("he wants none", 11, x.rule(5));
        x.days(1);
        edge.is("all", 15, x.rule(5));
    }

    private static void p06Bad() {
        edge.test(6, "BAD");
        edge.bounds("rule of a new object", 0, 5, new UpperSteps()::rule);
        edge.bounds("rule", 0, 5, Edge.lived()::rule);
        edge.is("bays above 5 are no rules", BAD, Due.told("steps 7;").rule(7));
    }

    private static void p07Book() {
        edge.test(7, "Of a BOOK");
        for (int what = 0; what < 4; what++) {
            int asked = what;
            edge.bounds("book of one", 0, 0, b -> Due.told("book 0 0 0;").book(b, asked));
            edge.bounds("book of eight", 0, 7, b -> Due.told(EIGHT).book(b, asked));
        }
        edge.is("book 0 of none", BAD, Due.told("guest 9 1;").book(0, 0));
    }

    private static void p07BayAndHeight() {
        edge.test(7, "0 BAY, 1 HEIGHT");
        UpperSteps x = Due.told(EIGHT);
        for (int b = 0; b < 8; b++) {
            edge.is("bay of " + b, b, x.book(b, 0));
            edge.is("height of " + b, b == 7 ? 9 : b, x.book(b, 1));
        }
    }

    private static void p07Leads() {
        edge.test(7, "2 to which it LEADS (NONE)");
        UpperSteps x = Due.told(EIGHT);
        for (int b = 0; b < 8; b++) {
            edge.is("from " + b, b == 7 ? NONE : b + 1, x.book(b, 2));
        }
        edge.is("to itself", 0, Due.told("book 0 0 0;").book(0, 2));
    }

    private static void p07WhoHad() {
        edge.test(7, "3 who HAD it (bits)");
        UpperSteps x = Due.told("book 0 0 9;book 0 0 9;" + "maid 9 1;".repeat(4));
        edge.is("nobody", 0, x.book(0, 3));
        x.fetch(3, 0);
        edge.is("the last", 8, x.book(0, 3));
        for (int r = 0; r < 3; r++) {
            x.fetch(r, 0);
        }
        edge.is("all", 15, x.book(0, 3));
        edge.is("nobody had the other", 0, x.book(1, 3));
        x.forgets(0);
        edge.is("all but the first", 14, x.book(0, 3));
        edge.is("without readers", 0, Due.told("book 0 0 9;").book(0, 3));
    }

    private static void p07Bad() {
        edge.test(7, "BAD");
        edge.bounds("what", 0, 3, what -> Edge.lived().book(0, what));
        edge.bounds("what of the last", 0, 3, what -> Edge.lived().book(2, what));
        edge.is("neither", BAD, Edge.lived().book(3, 4));
    }

    private static void p08Reader() {
        edge.test(8, "Of a READER");
        for (int what = 0; what < 6; what++) {
            int asked = what;
            edge.bounds("reader of one", 0, 0, r -> Due.told("guest 9 1;").reader(r, asked));
            edge.bounds("reader of four", 0, 3, r -> Due.told("guest 9 1;".repeat(4)).reader(r, asked));
        }
        edge.is("reader 0 of nobody", BAD, Due.told("book 0 0 9;").reader(0, 0));
    }

    private static void p08KindAndBears() {
        edge.test(8, "0 KIND", "2 BEARS");
        UpperSteps x = Due.told("guest 9 1;nephew 9 99;lord 9 2;maid 9 98;");
        int[] bears = {1, 99, 2, 98};
        for (int r = 0; r < 4; r++) {
            edge.is("kind of " + r, r, x.reader(r, 0));
            edge.is("bears " + r, bears[r], x.reader(r, 2));
        }
    }

    private static void p08Wants() {
        edge.test(8, "1 WANTS (NONE)");
        UpperSteps x = Due.told(EIGHT + "guest 0 1;guest 7 1;guest 9 1;");
        edge.is("the first", 0, x.reader(0, 1));
        edge.is("the last", 7, x.reader(1, 1));
        edge.is("none", NONE, x.reader(2, 1));
    }

    private static void p08Had() {
        edge.test(8, "3 which he HAD (bits)");
        UpperSteps x = Due.told(EIGHT + "guest 9 1;guest 9 1;");
        edge.is("none", 0, x.reader(0, 3));
        x.fetch(0, 7);
        edge.is("the last", 128, x.reader(0, 3));
        for (int b = 0; b < 7; b++) {
            x.fetch(0, b);
        }
        edge.is("all", 255, x.reader(0, 3));
        edge.is("the other none", 0, x.reader(1, 3));
    }

    private static void p08Minutes() {
        edge.test(8, "4 minutes to FETCH what he WANTS (NONE: he WANTS none)");
        UpperSteps x = Due.told("book 0 0 9;book 7 9 9;guest 0 1;nephew 1 1;maid 0 1;guest 9 1;");
        edge.is("no minutes are not none", 0, x.reader(0, 4));
        edge.is("most minutes", 43, x.reader(1, 4));
        edge.is("a maid at the knee", 2, x.reader(2, 4));
        edge.is("he wants none", NONE, x.reader(3, 4));
        x.roll(7);
        edge.is("from 7 to 0", 7, x.reader(0, 4));
        edge.is("where they stand", 36, x.reader(1, 4));
        x.fetch(0, 0);
        edge.is("he had it", 0, x.reader(0, 4));
        x.alter(0, 1, 9);
        edge.is("he wants none then", NONE, x.reader(0, 4));
    }

    private static void p08Dizzy() {
        edge.test(8, "5 how DIZZY he is by it (NONE)");
        UpperSteps x = Due.told("book 0 0 9;book 7 9 9;guest 0 1;lord 1 1;maid 1 1;guest 9 1;");
        edge.is("not at all is not none", 0, x.reader(0, 5));
        edge.is("most, above what he bears", 18, x.reader(1, 5));
        edge.is("a maid", 4, x.reader(2, 5));
        edge.is("he wants none", NONE, x.reader(3, 5));
        x.fetch(1, 1);
        edge.is("he had it", 18, x.reader(1, 5));
    }

    private static void p08Bad() {
        edge.test(8, "BAD");
        edge.bounds("what", 0, 5, what -> Edge.lived().reader(0, what));
        edge.is("BAD is ahead of NONE", BAD, Due.told("guest 9 1;").reader(0, 6));
        edge.is("neither", BAD, Edge.lived().reader(3, 6));
    }
}
