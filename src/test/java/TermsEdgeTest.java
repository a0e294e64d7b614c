/** Boundary cases of the document's terms: answers, bounds, the text and its FAULTS, a DAY, SHEETS. */
public final class TermsEdgeTest {
    private static final int BAD = Edge.BAD, STATE = Edge.STATE, FULL = Edge.FULL, NONE = Edge.NONE;
    private static final String[] KINDS = {"guest", "nephew", "lord", "maid"};
    private static final String[] ALL_LINES = {"book 0 0 9;", "guest 9 1;", "nephew 9 1;", "lord 9 1;", "maid 9 1;",
        "steps 0;"};
    private static final String EIGHT = "book 0 0 9;".repeat(8);
    private static final String FOUR = "guest 9 1;nephew 9 1;lord 9 1;maid 9 1;";
    private static final Edge edge = new Edge();

    public static void main(String[] args) {
        answers();
        noSuch();
        theFirstThatFits();
        changesNothing();
        fractions();
        books();
        bays();
        heights();
        leads();
        readers();
        kinds();
        wants();
        bears();
        had();
        atFirst();
        climb();
        climbOfLord();
        climbOfMaid();
        dizzy();
        dizzyOfNephew();
        dizzyOfMaid();
        tape();
        tokensAsLongAsMayBe();
        blanks();
        names();
        numbers();
        stop();
        lines();
        lineForms();
        bookLine();
        readerLine();
        stepsLine();
        firstMet();
        fault1NoToken();
        fault1TooLong();
        fault2();
        fault2TheEnd();
        fault3();
        fault4();
        fault5Book();
        fault5Reader();
        fault6();
        takenText();
        takenTextSeen();
        takenTextImages();
        toFetch();
        dayBeginsNotDizzy();
        dayOfWhoHadIt();
        dayOfVertigo();
        dayOfFetching();
        dayIsOneMore();
        doneIs();
        byDays();
        seenSix();
        seenDays();
        sheetNumbers();
        sheetLanes();
        sheetCells();
        sheetsOfNothing();
        machineNull();
        machineIndex();
        machineCast();
        machineSize();
        edge.finish("TermsEdgeTest", Edge.TERMS, Edge.TERMS);
    }

    /** What text() and then fault() answer. */
    private static void told(String text, int answer, int fault) {
        UpperSteps x = new UpperSteps();
        edge.is("text '" + text + "'", answer, Due.tell(x, text));
        edge.is("fault of '" + text + "'", fault, x.fault());
    }

    // ---- the answers

    private static void answers() {
        edge.test(Edge.TERMS, "Answers: BAD -1 (a number is not as told,",
                "STATE -2 (as told), FULL -3, NONE -4 (there is none)");
        edge.is("BAD", -1, UpperSteps.BAD);
        edge.is("STATE", -2, UpperSteps.STATE);
        edge.is("FULL", -3, UpperSteps.FULL);
        edge.is("NONE", -4, UpperSteps.NONE);
        edge.is("a number too small", -1, new UpperSteps().feed(-1));
        edge.is("a number too large", -1, new UpperSteps().feed(128));
        edge.is("as told", -2, new UpperSteps().back(0));
        UpperSteps x = Due.told("guest 9 1;");
        for (int i = 0; i < 6; i++) {
            x.see(0, 0, 9);
        }
        edge.is("no place", -3, x.see(0, 0, 9));
        edge.is("there is none", -4, x.reader(0, 1));
    }

    private static void noSuch() {
        edge.test(Edge.TERMS, "there is no such BOOK, READER, IMAGE, SHEET)");
        UpperSteps x = Edge.lived();
        edge.bounds("BOOK", 0, 2, b -> x.book(b, 0));
        edge.bounds("BOOK to be changed", 0, 2, b -> x.shelve(b, 0, 0));
        edge.bounds("BOOK to be fetched", 0, 2, b -> x.fetch(1, b));
        edge.bounds("READER", 0, 2, r -> x.reader(r, 0));
        edge.bounds("READER to be changed", 0, 2, r -> x.alter(r, 0, 0));
        edge.bounds("READER who fetches", 0, 2, r -> x.fetch(r, 0));
        edge.bounds("IMAGE", 0, 1, x::back);
        edge.bounds("IMAGE to be kept", 0, 1, x::keep);
        edge.bounds("SHEET", 0, 3, k -> x.lay(k, 0, 0));
        edge.bounds("SHEET to be made", 0, 3, k -> x.sheet(k, 0, 0));
        edge.bounds("SHEET to be read", 0, 3, k -> x.read(k, 0, 0, 0));
    }

    private static void theFirstThatFits() {
        edge.test(Edge.TERMS, "the first that fits");
        UpperSteps late = Edge.clockAt(9999);
        late.shelve(0, 1, 0);
        edge.is("it could be fetched", 0, late.fetch(1, 0));
        late.shelve(0, 1, 9);
        edge.is("BAD ahead of FULL", BAD, late.fetch(1, 8));
        edge.is("STATE ahead of FULL", STATE, late.fetch(1, 0));
        edge.is("FULL", FULL, late.fetch(1, 2));
        edge.is("BAD ahead of STATE", BAD, new UpperSteps().back(2));
        edge.is("STATE", STATE, new UpperSteps().back(1));
        edge.is("BAD ahead of STATE by n", BAD, new UpperSteps().drift(0, 0, 0));
        edge.is("BAD ahead of STATE by what", BAD, new UpperSteps().drift(0, 1, 2));
        edge.is("BAD ahead of NONE", BAD, Due.told("guest 9 1;").knee(0, 2));
        edge.is("NONE", NONE, Due.told("guest 9 1;").knee(0, 1));
        edge.is("BAD ahead of SIZE", BAD, new UpperSteps().sheet(0, 3, -1));
        edge.is("BAD ahead of NULL", BAD, new UpperSteps().lay(4, 0, 0));
    }

    private static void changesNothing() {
        edge.test(Edge.TERMS, "what is refused changes nothing (but THE TAPE, as told)");
        edge.refused("shelve", BAD, x -> x.shelve(0, 1, 10));
        edge.refused("alter", BAD, x -> x.alter(0, 2, 100));
        edge.refused("fetch", STATE, x -> x.fetch(0, 0));
        edge.refused("days", BAD, x -> x.days(31));
        edge.refused("see", BAD, x -> x.see(21, 0, 0));
        edge.refused("keep", BAD, x -> x.keep(2));
        edge.refused("sheet", -14, x -> x.sheet(0, 0, -1));
        edge.refused("lay", -12, x -> x.lay(0, 6, 1));
        edge.refused("read", -21, Edge::lived, x -> {
            x.lay(0, 3, 3);
            int answer = x.read(0, 0, 0, 2);
            x.lay(0, 3, 2);
            return answer;
        });
        UpperSteps x = Edge.lived();
        x.end(0);
        Due.type(x, "nobody 1;");
        edge.is("text", -10, x.text());
        UpperSteps like = Edge.lived();
        like.end(0);
        edge.is("only THE TAPE is empty", 1, Edge.allOf(x).equals(Edge.allOf(like)) ? 1 : 0);
    }

    private static void fractions() {
        edge.test(Edge.TERMS, "Fractions are in lowest terms, the denominator above 0 (0 is 0 by 1)");
        UpperSteps x = Due.told("book 0 0 9;guest 0 1;");
        fraction(x, 5, 0, 1, 2);
        fraction(x, 4, 0, 3, 5);
        fraction(x, 3, 0, 7, 10);
        fraction(x, 10, 0, 0, 1);
        fraction(x, 10, 7, 1, 1);
        edge.is("mean 7 by 2", 7, x.mean(5, 1, 0));
        edge.is("mean by 2", 2, x.mean(5, 1, 1));
        edge.is("mean 0", 0, x.mean(0, 8, 0));
        edge.is("mean 0 by 1", 1, x.mean(0, 8, 1));
        edge.is("mean 7 by 1", 7, x.mean(10, 1, 0));
        edge.is("mean by 1", 1, x.mean(10, 1, 1));
    }

    private static void fraction(UpperSteps x, int v, int most, int above, int below) {
        edge.is("luck " + v + " " + most, above, x.luck(v, 1, most, 0));
        edge.is("luck by " + v + " " + most, below, x.luck(v, 1, most, 1));
    }

    // ---- BOOKS, READERS, bounds

    private static void books() {
        edge.test(Edge.TERMS, "BOOKS 0 on (8 at most, by order)");
        StringBuilder text = new StringBuilder();
        for (int b = 0; b < 8; b++) {
            text.append("book ").append(7 - b).append(" 0 9;");
            UpperSteps x = new UpperSteps();
            edge.is("so many", b + 1, Due.tell(x, text.toString()));
            edge.is("BOOKS", b + 1, x.rule(0));
            edge.is("the last told is the last", 7 - b, x.book(b, 0));
            edge.is("the first told is BOOK 0", 7, x.book(0, 0));
            edge.is("there is none behind it", BAD, x.book(b + 1, 0));
        }
        UpperSteps eight = Due.told(text.toString());
        edge.is("nine", -98, Due.tell(eight, text + "book 0 0 9;"));
        edge.is("eight stay", 8, eight.rule(0));
    }

    private static void bays() {
        edge.test(Edge.TERMS, "each in a BAY (0 to 7)", "THE STEPS are at a BAY");
        told("book 0 0 9;", 1, 0);
        told("book 7 0 9;", 1, 0);
        told("book 8 0 9;", -15, 3);
        UpperSteps x = Due.told("book 3 0 9;steps 4;");
        edge.bounds("of a BOOK", 0, 7, v -> x.shelve(0, 0, v));
        edge.bounds("of THE STEPS", 0, 7, x::roll);
        told("steps 7;", 1, 0);
        told("steps 8;", -16, 3);
    }

    private static void heights() {
        edge.test(Edge.TERMS, "at a HEIGHT (0 to 9)");
        told("book 0 0 9;", 1, 0);
        told("book 0 9 9;", 1, 0);
        told("book 0 10 9;", -17, 3);
        UpperSteps x = Due.told("book 3 4 9;");
        edge.bounds("of a BOOK", 0, 9, v -> x.shelve(0, 1, v));
        edge.is("9 is a HEIGHT", 9, x.book(0, 1));
    }

    private static void leads() {
        edge.test(Edge.TERMS, "LEADS on to a BOOK (itself, too), or to none.");
        UpperSteps x = Due.told("book 0 0 0;book 0 0 0;book 0 0 9;guest 0 1;");
        edge.is("itself", 0, x.book(0, 2));
        edge.is("another", 0, x.book(1, 2));
        edge.is("none", NONE, x.book(2, 2));
        edge.is("to itself by shelve", NONE, x.shelve(2, 2, 2));
        edge.is("to itself then", 2, x.book(2, 2));
        edge.is("but once in a day", 1, x.days(1));
        edge.is("is done then", NONE, x.reader(0, 1));
    }

    private static void readers() {
        edge.test(Edge.TERMS, "READERS 0 on (4 at most, by order)");
        UpperSteps x = new UpperSteps();
        StringBuilder text = new StringBuilder();
        for (int r = 0; r < 4; r++) {
            text.append("maid 9 ").append(r + 5).append(";");
            edge.is("so many", r + 1, Due.tell(x, text.toString()));
            edge.is("READERS", r + 1, x.rule(1));
            edge.is("the last told is the last", r + 5, x.reader(r, 2));
            edge.is("the first told is READER 0", 5, x.reader(0, 2));
            edge.is("there is none behind him", BAD, x.reader(r + 1, 0));
        }
        edge.is("five", -46, Due.tell(x, text + "maid 9 1;"));
        edge.is("four stay", 4, x.rule(1));
    }

    private static void kinds() {
        edge.test(Edge.TERMS, "each of a KIND (0 guest, 1 nephew, 2 lord, 3 maid)");
        for (int kind = 0; kind < 4; kind++) {
            edge.is(KINDS[kind], kind, Due.told(KINDS[kind] + " 9 1;").reader(0, 0));
        }
        UpperSteps x = Due.told("lord 9 1;");
        edge.bounds("KIND", 0, 3, v -> x.alter(0, 0, v));
    }

    private static void wants() {
        edge.test(Edge.TERMS, "WANTS a BOOK, or none,");
        UpperSteps x = Due.told("book 0 0 9;book 0 0 9;guest 1 1;guest 9 1;");
        edge.is("a book", 1, x.reader(0, 1));
        edge.is("none", NONE, x.reader(1, 1));
        edge.is("a book that there is", 1, x.alter(0, 1, 0));
        edge.is("the last that there is", NONE, x.alter(1, 1, 1));
        edge.is("a book that there is not", BAD, x.alter(0, 1, 2));
        edge.is("none by alter", 0, x.alter(0, 1, 9));
    }

    private static void bears() {
        edge.test(Edge.TERMS, "BEARS so much (1 to 99)");
        told("guest 9 0;", -18, 3);
        told("guest 9 1;", 1, 0);
        told("guest 9 99;", 1, 0);
        told("guest 9 100;", -18, 1);
        UpperSteps x = Due.told("lord 9 5;");
        edge.bounds("BEARS", 1, 99, v -> x.alter(0, 2, v));
    }

    private static void had() {
        edge.test(Edge.TERMS, "HAD some BOOKS (none at first)");
        UpperSteps x = Due.told("book 0 0 9;book 0 0 9;guest 0 1;");
        edge.is("none", 0, x.reader(0, 3));
        x.fetch(0, 1);
        edge.is("some", 2, x.reader(0, 3));
        Due.tell(x, "book 0 0 9;book 0 0 9;guest 0 1;");
        edge.is("none at first again", 0, x.reader(0, 3));
    }

    private static void atFirst() {
        edge.test(Edge.TERMS, "(0 at first). CLOCK, DAY (0 at first)");
        UpperSteps x = new UpperSteps();
        edge.is("THE STEPS", 0, x.rule(2));
        edge.is("CLOCK", 0, x.rule(3));
        edge.is("DAY", 0, x.rule(4));
        Due.tell(x, Edge.THREE);
        x.days(2);
        edge.is("told", 1, Due.tell(x, "book 5 1 9;"));
        edge.is("THE STEPS anew", 0, x.rule(2));
        edge.is("CLOCK anew", 0, x.rule(3));
        edge.is("DAY anew", 0, x.rule(4));
    }

    // ---- CLIMB and DIZZY

    /** Minutes in the BAY where THE STEPS are: twice his CLIMB. */
    private static void climbs(String kind, int... due) {
        UpperSteps x = Due.told("book 0 0 9;" + kind + " 0 99;");
        for (int height = 0; height < due.length; height++) {
            x.shelve(0, 1, height);
            edge.is(kind + " at " + height, 2 * due[height], x.reader(0, 4));
        }
    }

    private static void dizzies(String kind, int... due) {
        UpperSteps x = Due.told("book 0 0 9;" + kind + " 0 99;");
        for (int height = 0; height < due.length; height++) {
            x.shelve(0, 1, height);
            edge.is(kind + " at " + height, due[height], x.reader(0, 5));
        }
    }

    private static void climb() {
        edge.test(Edge.TERMS, "CLIMB by KIND, from a HEIGHT: guest as much; nephew twice that of a guest;");
        climbs("guest", 0, 1, 2, 3, 4, 5, 6, 7, 8, 9);
        climbs("nephew", 0, 2, 4, 6, 8, 10, 12, 14, 16, 18);
    }

    private static void climbOfLord() {
        edge.test(Edge.TERMS, "lord half of that of a guest (up)");
        climbs("lord", 0, 1, 1, 2, 2, 3, 3, 4, 4, 5);
    }

    private static void climbOfMaid() {
        edge.test(Edge.TERMS, "maid 1 more than half of that of a nephew (down)");
        climbs("maid", 1, 2, 3, 4, 5, 6, 7, 8, 9, 10);
    }

    private static void dizzy() {
        edge.test(Edge.TERMS, "DIZZY by KIND, by a HEIGHT: guest as much;", "lord twice as a guest;");
        dizzies("guest", 0, 1, 2, 3, 4, 5, 6, 7, 8, 9);
        dizzies("lord", 0, 2, 4, 6, 8, 10, 12, 14, 16, 18);
    }

    private static void dizzyOfNephew() {
        edge.test(Edge.TERMS, "nephew as a guest, and by as much more as the HEIGHT is above 5");
        dizzies("nephew", 0, 1, 2, 3, 4, 5, 7, 9, 11, 13);
    }

    private static void dizzyOfMaid() {
        edge.test(Edge.TERMS, "maid a third of a nephew (down)");
        dizzies("maid", 0, 0, 0, 1, 1, 1, 2, 3, 3, 4);
    }

    // ---- THE TAPE and its TOKENS

    private static void tape() {
        edge.test(Edge.TERMS, "THE TAPE has 160 bytes, places from 0.");
        told("X", -10, 1);
        told(" ".repeat(159) + "X", -169, 1);
        // The last byte that has a place is told of; the next has none.
        told(" ".repeat(152) + "steps 5;", 1, 0);
        told(" ".repeat(153) + "steps 5;", -170, 2);
        UpperSteps x = new UpperSteps();
        Due.type(x, " ".repeat(159));
        edge.is("the last place", 160, x.feed(32));
        edge.is("no place", FULL, x.feed(32));
    }

    private static void tokensAsLongAsMayBe() {
        edge.test(Edge.TERMS, "TOKENS, each as long as may be");
        told("steps4;", 1, 0);
        told("step s4;", -10, 2);
        told("stepsbook 4;", -10, 2);
        told("book0 0 9;", 1, 0);
        told("book00 9;", -18, 2);
        told("book 000 9;", -15, 1);
        told("steps 12;", -16, 3);
        told("steps 1 2;", -18, 2);
        told("steps 1;guest 9 1;", 2, 0);
    }

    private static void blanks() {
        edge.test(Edge.TERMS, "blanks (32) between");
        told("steps 4;", 1, 0);
        told("steps   4   ;   ", 1, 0);
        told("   steps4;", 1, 0);
        told("steps\t4;", -15, 1);
        told("steps" + (char) 31 + "4;", -15, 1);
        told("steps!4;", -15, 1);
        told("steps 4;\n", -18, 1);
        told("steps\0004;", -15, 1);
        told("steps 4;\r", -18, 1);
    }

    private static void names() {
        edge.test(Edge.TERMS, "NAMES (a .. z)");
        told("a", -10, 2);
        told("z", -10, 2);
        told("`", -10, 1);
        told("{", -10, 1);
        told("A", -10, 1);
        told("Z", -10, 1);
        told("Steps 4;", -10, 1);
        told("steps`4;", -15, 1);
        told("steps{4;", -15, 1);
        told("stepS 4;", -10, 2);
    }

    private static void numbers() {
        edge.test(Edge.TERMS, "NUMBERS (1 or 2 figures)");
        told("steps 0;", 1, 0);
        told("steps 00;", 1, 0);
        told("steps 000;", -16, 1);
        told("steps /;", -16, 1);
        told("steps :;", -16, 1);
        told("steps 4/;", -17, 1);
        told("steps 4:;", -17, 1);
        told("steps -1;", -16, 1);
        told("steps +1;", -16, 1);
        UpperSteps x = Due.told("guest 9 09;lord 9 90;");
        edge.is("09", 9, x.reader(0, 2));
        edge.is("90", 90, x.reader(1, 2));
    }

    private static void stop() {
        edge.test(Edge.TERMS, "one ; .");
        told("steps 4;", 1, 0);
        told("steps 4;;", -18, 2);
        told(";", -10, 2);
        told("steps 4:", -17, 1);
        told("steps 4<", -17, 1);
    }

    private static void lines() {
        edge.test(Edge.TERMS, "text: { line }");
        told("", 0, 0);
        told(" ", 0, 0);
        StringBuilder all = new StringBuilder();
        for (int i = 0; i < ALL_LINES.length; i++) {
            told(ALL_LINES[i], 1, 0);
            all.append(ALL_LINES[i]);
            told(all.toString(), i + 1, 0);
        }
        told("4", -10, 2);
    }

    private static void lineForms() {
        edge.test(Edge.TERMS, "line: book N N N ; | guest N N ; | nephew N N ; | lord N N ; | maid N N ; | steps N ;");
        told("book;", -14, 2);
        told("book 0;", -16, 2);
        told("book 0 0;", -18, 2);
        told("book 0 0 9;", 1, 0);
        told("book 0 0 9 9;", -21, 2);
        for (String kind : KINDS) {
            int at = -10 - kind.length();
            told(kind + ";", at, 2);
            told(kind + " 9;", at - 2, 2);
            told(kind + " 9 1;", 1, 0);
            told(kind + " 9 1 1;", at - 5, 2);
            told(kind + " 9 1", at - 4, 2);
        }
        told("steps;", -15, 2);
        told("steps 0;", 1, 0);
        told("steps 0 0;", -18, 2);
        told("steps 0", -17, 2);
    }

    private static void bookLine() {
        edge.test(Edge.TERMS, "book: a BOOK more: BAY, HEIGHT, to which it LEADS (0 to 7; 9: none).");
        UpperSteps x = Due.told("book 7 9 0;book 0 0 7;" + "book 1 2 9;".repeat(6));
        int[][] due = {{7, 9, 0}, {0, 0, 7}, {1, 2, NONE}};
        for (int b = 0; b < 3; b++) {
            for (int what = 0; what < 3; what++) {
                edge.is("book " + b + " " + what, due[b][what], x.book(b, what));
            }
        }
        told("book 0 0 8;", -19, 3);
        told("book 0 0 10;", -19, 3);
        told("book 0 0 99;", -19, 3);
    }

    private static void readerLine() {
        edge.test(Edge.TERMS, "guest, nephew, lord, maid: a READER more of that KIND: WANTS (0 to 7; 9: none), BEARS.");
        for (int kind = 0; kind < 4; kind++) {
            UpperSteps x = Due.told(EIGHT + KINDS[kind] + " 0 1;" + KINDS[kind] + " 7 99;" + KINDS[kind] + " 9 50;");
            int[][] due = {{kind, 0, 1}, {kind, 7, 99}, {kind, NONE, 50}};
            for (int r = 0; r < 3; r++) {
                for (int what = 0; what < 3; what++) {
                    edge.is(KINDS[kind] + " " + r + " " + what, due[r][what], x.reader(r, what));
                }
            }
            int at = -11 - KINDS[kind].length();
            told(KINDS[kind] + " 8 1;", at, 3);
            told(KINDS[kind] + " 10 1;", at, 3);
            told(KINDS[kind] + " 9 0;", at - 2, 3);
            told(KINDS[kind] + " 9 00;", at - 2, 3);
        }
    }

    private static void stepsLine() {
        edge.test(Edge.TERMS, "steps: the BAY at which THE STEPS are.");
        edge.is("0", 0, Due.told("steps 0;").rule(2));
        edge.is("7", 7, Due.told("steps 7;").rule(2));
        told("steps 8;", -16, 3);
        told("steps 9;", -16, 3);
        told("steps 99;", -16, 3);
    }

    // ---- the FAULTS of a text

    private static void firstMet() {
        edge.test(Edge.TERMS,
                "FAULTS, the first met as it is read (a TOKEN is read when the one before has been taken):");
        // Of two FAULTS that which stands first in the text, whatever its number.
        told("steps 8 X", -16, 3);
        told("steps X 8", -16, 1);
        told("guest 8 X", -16, 3);
        told("nobody X", -10, 2);
        told("nobodyX", -10, 2);
        told("steps 1;steps X", -18, 4);
        told("steps 1;stepsX", -18, 4);
        told("steps 8;steps 1;", -16, 3);
        told("steps 1;X steps 1;", -18, 1);
        told("steps 1;x steps 1;", -18, 2);
        told(EIGHT + "book X", -98, 5);
        told(EIGHT + "book000", -98, 5);
        told(EIGHT + "book", -98, 5);
        told(EIGHT + "bookX", -98, 5);
        told(FOUR + "maid 8", -49, 5);
        told(FOUR + "maidX", -49, 5);
        told(EIGHT + "book 0 0 7;X", -98, 5);
        told(EIGHT + "steps 8;book", -104, 3);
        told("guest 7 1;X", -20, 1);
        told("guest 7 1;x", -20, 2);
        told("guest 7 1;steps 8;", -26, 3);
        told("guest 7 1;steps 1;steps", -28, 4);
        told("book 8 10 8;", -15, 3);
        told("book 0 10 8;", -17, 3);
        told("steps 4 X", -18, 1);
        told("steps 4X;", -17, 1);
    }

    private static void fault1NoToken() {
        edge.test(Edge.TERMS, "1 no TOKEN,");
        for (int c = 0; c < 128; c++) {
            boolean token = c >= 'a' && c <= 'z' || c >= '0' && c <= '9' || c == ';';
            if (c != 32) {
                told("steps 1;" + (char) c, -18, token ? 2 : 1);
                told("steps 1; " + (char) c, -19, token ? 2 : 1);
            }
        }
    }

    private static void fault1TooLong() {
        edge.test(Edge.TERMS, "a NUMBER that is too long (its first byte).");
        told("guest 9 99;", 1, 0);
        told("guest 9 999;", -18, 1);
        told("guest 9 001;", -18, 1);
        told("guest 9  12345678901;", -19, 1);
        told("100", -10, 1);
        told("10", -10, 2);
        told("steps 1;  100", -20, 1);
        told(" ".repeat(157) + "100", -167, 1);
    }

    private static void fault2() {
        edge.test(Edge.TERMS, "2 a TOKEN that can not stand there (a NAME that begins no line;");
        for (String line : ALL_LINES) {
            // A NAME that is another by but one letter.
            for (int i = 0; i < line.indexOf(' '); i++) {
                told(line.substring(0, i) + 'z' + line.substring(i + 1), -10, 2);
            }
        }
        told("boo 0 0 9;", -10, 2);
        told("books 0 0 9;", -10, 2);
        told("boot 0 0 9;", -10, 2);
        told("gues 9 1;", -10, 2);
        told("guests 9 1;", -10, 2);
        told("nephews 9 1;", -10, 2);
        told("lor 9 1;", -10, 2);
        told("mai 9 1;", -10, 2);
        told("step 4;", -10, 2);
        told("  steps steps;", -18, 2);
        told("steps book;", -16, 2);
        told("book 0 steps 9;", -17, 2);
        told("book 0 0 book;", -19, 2);
        told("guest 9 guest;", -18, 2);
        told("guest 9;1;", -17, 2);
        told("steps 4 steps 4;", -18, 2);
        told("steps 4;4;", -18, 2);
    }

    private static void fault2TheEnd() {
        edge.test(Edge.TERMS, "or the end: the length).");
        told("book", -14, 2);
        told("book ", -15, 2);
        told("book 0", -16, 2);
        told("book 0 0 ", -19, 2);
        told("book 0 0 9", -20, 2);
        told("book 0 0 9   ", -23, 2);
        told("book 0 0 9;", 1, 0);
        told("book 0 0 9;   ", 1, 0);
        told("guest 9", -17, 2);
        told("steps" + " ".repeat(155), -170, 2);
    }

    private static void fault3() {
        edge.test(Edge.TERMS, "3 a NUMBER out of its bounds (8, where a BOOK is told, too).");
        told("book 7 9 9;", 1, 0);
        told("book 8 9 9;", -15, 3);
        told("book 99 9 9;", -15, 3);
        told("book 7 10 9;", -17, 3);
        told("book 07 10 9;", -18, 3);
        told("book 7 9 8;", -19, 3);
        told("book 7 9 08;", -19, 3);
        told("book 7 9 10;", -19, 3);
        told("guest 8 1;", -16, 3);
        told("guest 10 1;", -16, 3);
        told("guest 9 0;", -18, 3);
        told("steps 8;", -16, 3);
        // 8 is a BOOK's number nowhere, not even where there are eight.
        told(EIGHT + "guest 7 8;", 9, 0);
        told(EIGHT + "guest 8 7;", -104, 3);
    }

    private static void fault4() {
        edge.test(Edge.TERMS, "4 steps for the second time (its NAME).");
        told("steps 1;", 1, 0);
        told("steps 1;steps 1;", -18, 4);
        told("steps 0;   steps 0;", -21, 4);
        told("steps 0;book 0 0 9;guest 0 1;steps 7;", -39, 4);
        UpperSteps x = Due.told("steps 1;");
        edge.is("once in another text", 1, Due.tell(x, "steps 2;"));
        edge.is("told anew", 2, x.rule(2));
        edge.is("twice in it", -18, Due.tell(x, "steps 3;steps 4;"));
        edge.is("stays", 2, x.rule(2));
    }

    private static void fault5Book() {
        edge.test(Edge.TERMS, "5 the 9th book,");
        told(EIGHT, 8, 0);
        told(EIGHT + "book 0 0 9;", -98, 5);
        told(EIGHT + "  book 0 0 9;", -100, 5);
        told(EIGHT + "guest 0 1;book 0 0 9;", -108, 5);
        UpperSteps x = Due.told(EIGHT);
        edge.is("eight in another text", 8, Due.tell(x, EIGHT));
    }

    private static void fault5Reader() {
        edge.test(Edge.TERMS, "the 5th READER (its NAME).");
        told(FOUR, 4, 0);
        for (String kind : KINDS) {
            String four = (kind + " 9 1;").repeat(4);
            told(four, 4, 0);
            told(four + kind + " 9 1;", -10 - four.length(), 5);
            told(FOUR + kind + " 9 1;", -49, 5);
            told(FOUR + "  steps 1;" + kind, -59, 5);
        }
        told(FOUR + "book 0 0 9;steps 4;", 6, 0);
        UpperSteps x = Due.told(FOUR);
        edge.is("four in another text", 4, Due.tell(x, FOUR));
    }

    private static void fault6() {
        edge.test(Edge.TERMS, "Behind all (the length): 6 a BOOK that there is not.");
        told("book 0 0 0;", 1, 0);
        told("book 0 0 1;", -21, 6);
        told("book 0 0 1;book 0 0 9;", 2, 0);
        told("book 0 0 2;book 0 0 9;", -32, 6);
        told("book 0 0 9;book 0 0 2;", -32, 6);
        told("book 0 0 1;   ", -24, 6);
        told("book 0 0 9;guest 0 1;", 2, 0);
        told("book 0 0 9;guest 1 1;", -31, 6);
        told("guest 0 1;", -20, 6);
        told("guest 0 1;book 0 0 9;", 2, 0);
        told("guest 9 1;guest 9 1;guest 9 1;guest 0 1;", -50, 6);
        told("guest 7 1;" + "book 0 0 9;".repeat(7), -97, 6);
        told("guest 7 1;" + EIGHT, 9, 0);
        told("guest 7 1;", -20, 6);
        told("guest 9 1;", 1, 0);
        told("book 0 0 7;" + "book 0 0 9;".repeat(6), -87, 6);
        told("book 0 0 7;" + "book 0 0 9;".repeat(7), 8, 0);
        // A BOOK of the text before is gone.
        UpperSteps x = Due.told("book 0 0 9;book 0 0 9;");
        edge.is("it was there", -20, Due.tell(x, "guest 0 1;"));
        edge.is("fault", 6, x.fault());
    }

    private static final String[] TAKEN = {"", "steps 0;", "book 1 2 0;lord 0 3;"};

    private static UpperSteps livedAndTold(String text) {
        UpperSteps x = Edge.lived();
        x.end(0);
        edge.is("taken '" + text + "'", 1, Due.tell(x, text) >= 0 ? 1 : 0);
        return x;
    }

    private static void takenText() {
        edge.test(Edge.TERMS, "A text that is taken tells all, in place of what there was;");
        for (String text : TAKEN) {
            UpperSteps x = livedAndTold(text);
            UpperSteps fresh = Due.told(text);
            for (int what = 0; what < 6; what++) {
                edge.is("rule " + what + " by '" + text + "'", fresh.rule(what), x.rule(what));
            }
            edge.is("had", fresh.reader(0, 3), x.reader(0, 3));
            edge.is("heights", fresh.count(4), x.count(4));
            edge.is("bears", fresh.count(5), x.count(5));
            edge.is("SHEETS stay", 6, x.count(3));
            edge.is("torn() stays", 1, x.torn());
        }
    }

    private static void takenTextSeen() {
        edge.test(Edge.TERMS, "nothing is SEEN;");
        for (String text : TAKEN) {
            UpperSteps x = livedAndTold(text);
            edge.is("SEEN", 0, x.count(0));
            edge.is("nothing to forget", BAD, x.forget(1));
        }
        UpperSteps y = Edge.lived();
        y.end(0);
        Due.tell(y, "steps 8;");
        edge.is("SEEN behind a text refused", 3, y.count(0));
        UpperSteps z = livedAndTold("book 0 0 9;guest 9 1;");
        edge.is("all is as SEEN", 15, z.kinds(0));
    }

    private static void takenTextImages() {
        edge.test(Edge.TERMS, "IMAGES are gone.");
        for (String text : TAKEN) {
            UpperSteps x = livedAndTold(text);
            edge.is("IMAGES", 0, x.count(1));
            edge.is("IMAGE 0", STATE, x.back(0));
            edge.is("IMAGE 1", STATE, x.back(1));
            edge.is("there was none", 0, x.keep(0));
        }
        UpperSteps y = Edge.lived();
        y.end(0);
        Due.tell(y, "steps 8;");
        edge.is("IMAGES behind a text refused", 2, y.count(1));
        edge.is("IMAGE 0 behind a text refused", 0, y.back(0));
    }

    // ---- a DAY

    private static void toFetch() {
        edge.test(Edge.TERMS, "TO FETCH a BOOK, by a READER: THE STEPS are rolled to its BAY: as many minutes as it "
                + "is BAYS from where they are; he CLIMBS up and down: twice his CLIMB; CLOCK is by all these more. "
                + "He HAD it then.");
        UpperSteps x = Due.told("book 0 0 9;book 7 0 9;book 7 9 9;guest 9 1;nephew 9 1;");
        edge.is("no minutes", 0, x.fetch(0, 0));
        edge.is("had then", 1, x.reader(0, 3));
        edge.is("all BAYS up", 7, x.fetch(0, 1));
        edge.is("THE STEPS are there", 7, x.rule(2));
        edge.is("CLOCK", 7, x.rule(3));
        edge.is("all BAYS down", 7, x.fetch(1, 0));
        edge.is("THE STEPS are back", 0, x.rule(2));
        edge.is("most minutes", 43, x.fetch(1, 2));
        edge.is("CLOCK by all these", 57, x.rule(3));
        edge.is("he had two", 3, x.reader(0, 3));
        edge.is("the other had two", 5, x.reader(1, 3));
    }

    private static void dayBeginsNotDizzy() {
        edge.test(Edge.TERMS, "A DAY: each READER, by order, begins not DIZZY at all.");
        UpperSteps x = Due.told("book 0 5 1;book 7 5 9;guest 0 5;guest 0 5;steps 7;");
        edge.is("each of them one", 2, x.days(1));
        edge.is("by order: both up in BAY 0", 27, x.rule(3));
        edge.is("not DIZZY on the next DAY", 2, x.days(1));
        edge.is("both had both", 15 - 12, x.book(0, 3) & x.book(1, 3));
        UpperSteps y = Due.told("book 0 0 9;book 7 0 9;guest 0 1;guest 1 1;");
        y.days(1);
        edge.is("the last by order leaves THE STEPS", 7, y.rule(2));
        edge.is("the first goes no way", 7, y.rule(3));
    }

    private static void dayOfWhoHadIt() {
        edge.test(Edge.TERMS, "As long as he WANTS a BOOK: if he HAD it, he WANTS none;");
        UpperSteps x = Due.told("book 0 9 1;book 0 0 9;guest 0 5;guest 9 5;");
        x.fetch(0, 0);
        int clock = x.rule(3);
        edge.is("he would be too DIZZY, but he HAD it", NONE, x.vertigo(0));
        edge.is("nothing is FETCHED", 0, x.days(1));
        edge.is("he WANTS none, not what it LEADS to", NONE, x.reader(0, 1));
        edge.is("no time goes", clock, x.rule(3));
        edge.is("who WANTS none has no part in it", 0, x.reader(1, 3));
        // BOOK by BOOK, until all of them are had.
        UpperSteps y = Due.told("book 0 0 1;book 0 0 2;book 0 0 3;book 0 0 4;book 0 0 5;book 0 0 6;book 0 0 7;"
                + "book 0 0 0;guest 3 1;");
        edge.is("as long as he WANTS one", 8, y.days(1));
        edge.is("had all", 255, y.reader(0, 3));
        edge.is("WANTS none", NONE, y.reader(0, 1));
    }

    private static void dayOfVertigo() {
        edge.test(Edge.TERMS, "else, if he would be DIZZY (what he is, and what he is by its HEIGHT) more than he "
                + "BEARS, he has VERTIGO, and his DAY is over;");
        UpperSteps x = Due.told("book 0 4 1;book 0 5 9;guest 0 9;");
        edge.is("as much as he BEARS", NONE, x.vertigo(0));
        edge.is("both", 2, x.runs(1, 0));
        x.alter(0, 2, 8);
        edge.is("1 more than he BEARS", 1, x.vertigo(0));
        edge.is("one", 1, x.runs(1, 0));
        edge.is("one VERTIGO", 1, x.runs(1, 2));
        x.alter(0, 2, 4);
        edge.is("as much as he BEARS by one", 1, x.vertigo(0));
        x.alter(0, 2, 3);
        edge.is("1 more by one", 0, x.vertigo(0));
        edge.is("his DAY is over", 0, x.days(1));
        edge.is("he WANTS it still", 0, x.reader(0, 1));
        edge.is("DAY goes on", 1, x.rule(4));
        // His DAY is over, not that of the next; nor does a lower BOOK come behind.
        UpperSteps y = Due.told("book 0 5 1;book 0 0 9;guest 0 4;guest 0 5;");
        edge.is("the next reads on", 2, y.days(1));
        edge.is("the first had none", 0, y.reader(0, 3));
        edge.is("the next had both", 3, y.reader(1, 3));
        UpperSteps z = Due.told("book 0 0 9;guest 0 1;");
        edge.is("HEIGHT 0 makes nobody DIZZY", NONE, z.vertigo(0));
    }

    private static void dayOfFetching() {
        edge.test(Edge.TERMS, "else he FETCHES it, is as much more DIZZY, and WANTS that to which it LEADS.");
        UpperSteps x = Due.told("book 0 3 1;book 0 3 2;book 0 3 9;guest 0 8;");
        edge.is("as much more by each", 2, x.vertigo(0));
        edge.is("two", 2, x.days(1));
        edge.is("WANTS the third", 2, x.reader(0, 1));
        edge.is("CLOCK", 12, x.rule(3));
        edge.is("the third", 1, x.days(1));
        edge.is("it LEADS to none", NONE, x.reader(0, 1));
    }

    private static void dayIsOneMore() {
        edge.test(Edge.TERMS, "DAY is 1 more.");
        UpperSteps x = Due.told(Edge.THREE);
        x.days(0);
        edge.is("no DAY", 0, x.rule(4));
        x.days(1);
        edge.is("1 more for all READERS", 1, x.rule(4));
        x.days(30);
        edge.is("30 more", 31, x.rule(4));
        x.fetch(2, 0);
        edge.is("fetch is out of a DAY", 31, x.rule(4));
        UpperSteps nobody = new UpperSteps();
        nobody.days(1);
        edge.is("1 more for nobody", 1, nobody.rule(4));
    }

    private static void doneIs() {
        edge.test(Edge.TERMS, "DONE is a READER who WANTS none.");
        UpperSteps x = Due.told("book 0 0 9;guest 0 1;guest 9 1;");
        edge.is("who WANTS none", 2, x.rule(5));
        edge.is("behind none", 0, x.done(1));
        x.fetch(0, 0);
        edge.is("who HAD what he WANTS is not DONE", 2, x.rule(5));
        edge.is("but behind one", 1, x.done(0));
        x.alter(1, 1, 0);
        edge.is("nobody", 0, x.rule(5));
    }

    private static void byDays() {
        edge.test(Edge.TERMS, "BY DAYS: as it would be from now on.");
        UpperSteps x = Due.told(Edge.THREE);
        edge.is("behind 1", 2, x.ahead(0, 1, 0));
        x.days(1);
        edge.is("behind none from then on", 2, x.ahead(0, 0, 0));
        edge.is("behind 1 from then on", NONE, x.ahead(0, 1, 0));
        byDaysNothingIsChanged();
        // It would be: neither DAY 1000 nor CLOCK 10000 ends it.
        UpperSteps late = Edge.dayAt(999);
        late.alter(0, 1, 0);
        edge.is("beyond DAY 999", 1, late.runs(60, 0));
        edge.is("DAY stays", 999, late.rule(4));
        UpperSteps later = Edge.clockAt(9999);
        later.alter(0, 1, 7);
        edge.is("beyond CLOCK 9999", 43, later.runs(1, 1));
        edge.is("CLOCK stays", 9999, later.rule(3));
    }

    private static void byDaysNothingIsChanged() {
        UpperSteps x = Edge.lived();
        for (int what = 0; what < 4; what++) {
            x.runs(60, what);
        }
        for (int what = 0; what < 2; what++) {
            x.ahead(0, 60, what);
            x.start(60, what);
            x.swap(60, what);
            x.knee(0, what);
            x.luck(5, 8, 50, what);
            x.mean(5, 8, what);
            x.ask(0, what);
            x.drift(7, 60, what);
            x.order(10 * what);
        }
        x.done(0);
        x.vertigo(0);
        x.need(0, 60);
        x.high(0, 0, 60);
        x.kinds(0);
        x.heights(0);
        edge.is("as it would be, not as it is", 1, Edge.allOf(x).equals(Edge.allOf(Edge.lived())) ? 1 : 0);
    }

    // ---- SEEN, SHEETS

    private static void seenSix() {
        edge.test(Edge.TERMS, "SEEN (6):");
        UpperSteps x = Due.told("book 0 6 9;guest 0 6;");
        for (int i = 1; i <= 6; i++) {
            edge.is("the " + i + "th", i, x.see(0, 0, 0));
        }
        edge.is("the 7th", FULL, x.see(0, 0, 0));
        edge.is("six", 6, x.count(0));
    }

    private static void seenDays() {
        edge.test(Edge.TERMS, "behind n DAYS (0 to 20) from now on a READER WANTS a BOOK, or none.");
        UpperSteps x = Due.told("book 0 6 9;guest 0 6;");
        edge.bounds("DAYS", 0, 20, n -> x.see(n, 0, 9));
        x.forget(0);
        x.see(1, 0, 9);
        edge.is("from now on", 9, x.kinds(0));
        x.see(0, 0, 0);
        edge.is("now a BOOK", 9, x.kinds(0));
        x.days(1);
        edge.is("from then on none", 0, x.kinds(0));
        x.forget(1);
        edge.is("behind one still none", 15, x.kinds(0));
    }

    private static void sheetNumbers() {
        edge.test(Edge.TERMS, "SHEETS 0 to 3 are rows");
        UpperSteps x = new UpperSteps();
        edge.bounds("lay", 0, 3, k -> x.lay(k, 0, 0));
        edge.bounds("read", 0, 3, k -> x.read(k, 0, 0, 1));
        edge.bounds("sheet", 0, 3, k -> x.sheet(k, 0, 1));
        // Each is a row by itself.
        for (int k = 0; k < 4; k++) {
            x.sheet(k, 0, 10 * k);
        }
        for (int k = 0; k < 4; k++) {
            edge.is("behind the last CELL of " + k, -12, x.lay(k, 10 * k, 0));
            edge.is("the last CELL of " + k, k == 0 ? -12 : 1, x.lay(k, 10 * k - 1, 0));
        }
    }

    private static void sheetLanes() {
        edge.test(Edge.TERMS, "of BYTES (lane 0), SHORTS (1), INTS (2)");
        UpperSteps x = Due.told("book 0 0 9;book 0 0 9;guest 9 1;");
        edge.bounds("lane", 0, 2, lane -> x.sheet(0, lane, 1));
        for (int lane = 0; lane < 3; lane++) {
            // READER 0 and BOOK 1, as long as the CELL holds but the lowest bits.
            x.sheet(0, lane, 2);
            x.lay(0, 1, 1);
            edge.is("1 in lane " + lane, 1, x.read(0, lane, 0, 1));
            edge.is("BOOK 1", 2, x.reader(0, 3));
            x.forgets(0);
            x.lay(0, 1, 257);
            edge.is("257 in lane " + lane, lane == 0 ? 1 : -20, x.read(0, lane, 0, 1));
            x.forgets(0);
            x.lay(0, 1, 65537);
            edge.is("65537 in lane " + lane, lane < 2 ? 1 : -20, x.read(0, lane, 0, 1));
            x.forgets(0);
        }
    }

    private static void sheetCells() {
        edge.test(Edge.TERMS, "with 0 to 40 CELLS,");
        UpperSteps x = new UpperSteps();
        for (int lane = 0; lane < 3; lane++) {
            edge.is("no CELLS", 1, x.sheet(0, lane, 0));
            edge.is("CELL 0 of none", -12, x.lay(0, 0, 0));
            edge.is("40 CELLS", 1, x.sheet(0, lane, 40));
            edge.is("CELL 39", 1, x.lay(0, 39, 1));
            edge.is("CELL 40", -12, x.lay(0, 40, 1));
            edge.is("41 CELLS", BAD, x.sheet(0, lane, 41));
            edge.is("-1 CELLS", -14, x.sheet(0, lane, -1));
            edge.is("40 CELLS still", 40, x.count(3));
        }
    }

    private static void sheetsOfNothing() {
        edge.test(Edge.TERMS, "or nothing (at first).");
        for (int k = 0; k < 4; k++) {
            UpperSteps x = new UpperSteps();
            edge.is("nothing at first", -11, x.lay(k, 0, 0));
            x.sheet(k, 0, 0);
            edge.is("something, though of no CELLS", -12, x.lay(k, 0, 0));
        }
    }

    private static UpperSteps twoShorts() {
        UpperSteps x = Due.told("book 0 0 9;guest 9 1;");
        x.sheet(1, 1, 2);
        return x;
    }

    private static void machine(String call, int fault, int k, int lane, int f) {
        UpperSteps x = twoShorts();
        edge.is(call, fault == 0 ? 1 : 0, x.read(k, lane, f, 1));
        edge.is(call + ": FAULT", fault, x.torn());
        edge.is(call + ": what came", fault == 0 ? 1 : 0, x.reader(0, 3));
    }

    private static void machineNull() {
        edge.test(Edge.TERMS, "A FAULT is what the machine finds: 1 NULL (nothing),");
        machine("a row", 0, 1, 1, 0);
        for (int k : new int[] {0, 2, 3}) {
            machine("nothing", 1, k, 1, 0);
            edge.is("to be laid on", -11, twoShorts().lay(k, 0, 0));
        }
        edge.is("a row to be laid on", 1, twoShorts().lay(1, 0, 0));
    }

    private static void machineIndex() {
        edge.test(Edge.TERMS, "2 INDEX,");
        machine("CELLS 0, 1", 0, 1, 1, 0);
        machine("CELLS 1, 2", 2, 1, 1, 1);
        machine("CELLS 2, 3", 2, 1, 1, 2);
        machine("CELLS -1, 0", 2, 1, 1, -1);
        edge.is("CELL -1", -12, twoShorts().lay(1, -1, 0));
        edge.is("CELL 0", 1, twoShorts().lay(1, 0, 0));
        edge.is("CELL 1", 1, twoShorts().lay(1, 1, 0));
        edge.is("CELL 2", -12, twoShorts().lay(1, 2, 0));
    }

    private static void machineCast() {
        edge.test(Edge.TERMS, "3 CAST (another lane),");
        machine("the lane", 0, 1, 1, 0);
        machine("the lane below", 3, 1, 0, 0);
        machine("the lane above", 3, 1, 2, 0);
        machine("ahead of INDEX", 3, 1, 0, 2);
        machine("nothing is of any lane", 1, 0, 2, 0);
    }

    private static void machineSize() {
        edge.test(Edge.TERMS, "4 SIZE (below 0).");
        edge.is("-1", -14, twoShorts().sheet(1, 1, -1));
        edge.is("least", -14, twoShorts().sheet(1, 1, Edge.LEAST));
        edge.is("0", 1, twoShorts().sheet(1, 1, 0));
        UpperSteps x = twoShorts();
        x.sheet(1, 1, -1);
        edge.is("two CELLS still", 1, x.lay(1, 1, 0));
    }
}
