import java.io.IOException;
import java.io.UncheckedIOException;
import java.nio.file.Files;
import java.nio.file.Path;
import java.util.ArrayList;
import java.util.BitSet;
import java.util.List;
import java.util.Map;
import java.util.TreeMap;
import java.util.function.IntToLongFunction;
import java.util.function.Supplier;
import java.util.function.ToLongFunction;
import java.util.regex.Matcher;
import java.util.regex.Pattern;

/**
 * What the tests of boundary cases share. Each of them stands under the words of the document that name its
 * boundary, and finish() fails if these are not the document's, or if words of the document have no test.
 */
final class Edge {
    static final int BAD = -1, STATE = -2, FULL = -3, NONE = -4;
    static final int LEAST = Integer.MIN_VALUE, MOST = Integer.MAX_VALUE;
    /** The section "Terms", beside the promises by their numbers. */
    static final int TERMS = 0;
    static final String THREE = "book 2 3 1;book 5 6 2;book 1 9 9;guest 0 12;maid 1 9;lord 2 17;steps 4;";
    private static final Path DOCUMENT = Path.of("../shared/DOC.md");

    private final Due due = new Due();
    private final Map<Integer, String> sections = new TreeMap<>();
    private final Map<Integer, BitSet> tested = new TreeMap<>();
    private String heading = "";

    Edge() {
        String document;
        try {
            document = Files.readString(DOCUMENT);
        } catch (IOException e) {
            throw new UncheckedIOException(e);
        }
        Matcher terms = Pattern.compile("(?s)\n## Terms\n(.*?)\nAhead of the calls").matcher(document);
        while (terms.find()) {
            enter(TERMS, terms.group(1).replaceAll("```(text)?|={3,} [12]", " "));
        }
        String promised = "(?s)\n## Promise (\\d+): [^\n]*\n+`[^`]*`: (.*?)(?=\n## )";
        Matcher promise = Pattern.compile(promised).matcher(document);
        while (promise.find()) {
            enter(Integer.parseInt(promise.group(1)), promise.group(2));
        }
    }

    private void enter(int section, String words) {
        sections.put(section, words.replaceAll("\\s+", " ").trim());
        tested.put(section, new BitSet());
    }

    /** What follows tests these words of the document. */
    void test(int section, String... words) {
        heading = (section == TERMS ? "Terms" : "P" + section) + " \"" + String.join(".. ", words) + "\": ";
        for (String part : words) {
            String whole = sections.getOrDefault(section, "");
            int at = whole.indexOf(part);
            due.is(heading + "the document's words", 1, at >= 0 ? 1 : 0);
            while (at >= 0) {
                tested.get(section).set(at, at + part.length());
                at = whole.indexOf(part, at + 1);
            }
        }
    }

    void is(String call, long want, long got) {
        due.is(heading + call, want, got);
    }

    /** Both sides of both bounds: without is BAD, within is not. */
    void bounds(String call, int least, int most, IntToLongFunction at) {
        for (int v : new int[] {LEAST, least - 1, most + 1, MOST}) {
            is(call + " with " + v, BAD, at.applyAsLong(v));
        }
        for (int v : new int[] {least, most}) {
            is(call + " with " + v + " is BAD", 0, at.applyAsLong(v) == BAD ? 1 : 0);
        }
    }

    /** Of two objects alike one has the call refused; behind it all that can be asked of both is alike. */
    void refused(String call, int answer, Supplier<UpperSteps> made, ToLongFunction<UpperSteps> refusing) {
        UpperSteps asked = made.get();
        is(call, answer, refusing.applyAsLong(asked));
        is(call + " changed something", 0, allOf(asked).equals(allOf(made.get())) ? 0 : 1);
    }

    void refused(String call, int answer, ToLongFunction<UpperSteps> refusing) {
        refused(call, answer, Edge::lived, refusing);
    }

    void finish(String name, int firstPromise, int lastPromise) {
        for (int p = firstPromise; p <= lastPromise; p++) {
            heading = (p == TERMS ? "Terms" : "P" + p) + ": ";
            String words = sections.getOrDefault(p, "");
            is("the document has it", 1, words.isEmpty() ? 0 : 1);
            for (int i = 0; i < words.length(); i++) {
                boolean sign = Character.isLetterOrDigit(words.charAt(i));
                if (sign && !tested.get(p).get(i)) {
                    is("no test stands under '" + words.substring(i, Math.min(words.length(), i + 30)) + "'", 0, 1);
                    break;
                }
            }
        }
        due.finish(name);
    }

    // ---- objects that the tests begin with

    /** Something of everything: a FAULT of both sorts, SEEN, both IMAGES, SHEETS of each lane, a text not yet told. */
    static UpperSteps lived() {
        UpperSteps x = Due.told(THREE);
        x.see(1, 0, 2);
        x.keep(0);
        x.days(1);
        x.see(0, 2, 2);
        x.keep(1);
        x.see(1, 0, 9);
        x.roll(6);
        int[] cells = {2, 0, 0, 2, 1, 0};
        for (int k = 0; k < 3; k++) {
            x.sheet(k, k, 6 - 2 * k);
            for (int i = 0; i < 6 - 2 * k; i++) {
                x.lay(k, i, cells[i]);
            }
        }
        x.read(3, 0, 0, 1);
        Due.tell(x, "x");
        Due.type(x, "steps 3;");
        return x;
    }

    /** Chained BOOKS 0 to 7 at HEIGHT 9, by turns in BAY 0 and 7, and four nephews who WANT none: CLOCK is as told. */
    static UpperSteps clockAt(int clock) {
        StringBuilder text = new StringBuilder();
        for (int b = 0; b < 8; b++) {
            text.append("book ").append(b % 2 * 7).append(" 9 ").append(b < 7 ? b + 1 : 9).append(";");
        }
        UpperSteps x = Due.told(text + "nephew 0 99;".repeat(4));
        for (int round = 0; round < 7; round++) {
            x.days(2);
            x.roll(0);
            for (int r = 0; r < 4; r++) {
                x.forgets(r);
                x.alter(r, 1, round < 6 ? 0 : 9);
            }
        }
        int rest = clock - x.rule(3);
        for (; rest >= 36; rest -= 36) {
            x.fetch(0, 0);
            x.forgets(0);
        }
        x.shelve(0, 1, rest / 4);
        x.shelve(0, 0, rest % 4);
        x.fetch(0, 0);
        x.forgets(0);
        x.roll(0);
        x.shelve(0, 1, 9);
        x.shelve(0, 0, 0);
        return x;
    }

    /** DAY is as told, at most 999; one guest, who WANTS none, and one BOOK in BAY 0 at HEIGHT 1. */
    static UpperSteps dayAt(int day) {
        UpperSteps x = Due.told("book 0 1 9;guest 9 9;");
        for (int rest = day; rest > 0; rest -= 30) {
            x.days(Math.min(30, rest));
        }
        return x;
    }

    // ---- all that can be asked of an object, which is used up by it

    /** Few enough calls for an object that is used for 512 at most. */
    static List<Long> allOf(UpperSteps x) {
        List<Long> all = new ArrayList<>();
        look(x, all);
        for (int k = 0; k < 4; k++) {
            readSheet(x, k, all);
        }
        lookAtSeen(x, all);
        for (int k = 0; k < 2; k++) {
            int clock = x.back(k);
            all.add((long) clock);
            if (clock != STATE) {
                look(x, all);
                lookAtSeen(x, all);
            }
        }
        all.add((long) x.text());
        look(x, all);
        return all;
    }

    private static void look(UpperSteps x, List<Long> all) {
        for (int what = 0; what < 6; what++) {
            all.add((long) x.rule(what));
            all.add((long) x.count(what));
        }
        all.add((long) x.fault());
        all.add((long) x.torn());
        int books = x.rule(0);
        for (int b = 0; b < books; b++) {
            for (int what = 0; what < 4; what++) {
                all.add((long) x.book(b, what));
            }
        }
        int readers = x.rule(1);
        for (int r = 0; r < readers; r++) {
            for (int what = 0; what < 4; what++) {
                all.add((long) x.reader(r, what));
            }
        }
    }

    private static void readSheet(UpperSteps x, int k, List<Long> all) {
        int readers = x.rule(1);
        for (int r = 0; r < readers; r++) {
            x.forgets(r);
        }
        all.add((long) x.read(k, k % 3, 0, 20));
        all.add((long) x.torn());
        all.add((long) x.rule(3));
        for (int r = 0; r < readers; r++) {
            all.add((long) x.reader(r, 3));
        }
    }

    private static void lookAtSeen(UpperSteps x, List<Long> all) {
        int books = x.rule(0);
        int readers = x.rule(1);
        for (int n = x.count(0); n >= 0; n--) {
            all.add((long) x.forget(n));
            for (int r = 0; r < readers; r++) {
                all.add((long) x.kinds(r));
            }
            for (int b = 0; b < books; b++) {
                all.add((long) x.heights(b));
            }
        }
    }
}
