import java.lang.reflect.Method;
import java.lang.reflect.Modifier;
import java.nio.file.DirectoryStream;
import java.nio.file.Files;
import java.nio.file.Path;
import java.util.HashSet;
import java.util.Set;
import java.util.regex.Matcher;
import java.util.regex.Pattern;

/** What README.md says, held against the class: its example, its table of faults, its answers below 0. */
public final class ReadmeTest {
    private static final Due due = new Due();
    private static final Set<String> calls = new HashSet<>();

    public static void main(String[] args) throws Exception {
        String page = Files.readString(Path.of("README.md"));
        for (Method method : UpperSteps.class.getDeclaredMethods()) {
            if (Modifier.isPublic(method.getModifiers())) {
                calls.add(method.getName());
            }
        }
        example(page);
        faults(page);
        answers(page);
        names(page);
        due.finish("ReadmeTest");
    }

    /** The lines of the example that tell their answer, in their order, on one object. */
    private static void example(String page) throws ReflectiveOperationException {
        Matcher text = Pattern.compile("String text = \"([^\"]*)\";").matcher(page);
        due.is("README has a text", 1, text.find() ? 1 : 0);
        UpperSteps x = new UpperSteps();
        Due.type(x, text.group(1));
        Matcher line = Pattern.compile("(?m)^x\\.(\\w+)\\(([-\\d, ]*)\\); +// (-?\\d+)").matcher(page);
        int told = 0;
        while (line.find()) {
            told++;
            due.is("README: " + line.group(), Long.parseLong(line.group(3)), answer(x, line.group(1), line.group(2)));
        }
        due.is("README's lines with an answer", 8, told);
    }

    private static long answer(UpperSteps x, String name, String numbers) throws ReflectiveOperationException {
        String[] parts = numbers.isEmpty() ? new String[0] : numbers.split(", ");
        Class<?>[] types = new Class<?>[parts.length];
        Object[] values = new Object[parts.length];
        for (int i = 0; i < parts.length; i++) {
            types[i] = int.class;
            values[i] = Integer.parseInt(parts[i]);
        }
        return ((Number) UpperSteps.class.getMethod(name, types).invoke(x, values)).longValue();
    }

    /** Each row's text has the FAULT, and text() answers, as the row says. */
    private static void faults(String page) {
        Matcher row = Pattern.compile("(?m)^\\| (\\d) \\|.*\\| `([^`]*)` \\| (-?\\d+) \\|$").matcher(page);
        int rows = 0;
        while (row.find()) {
            due.is("README's fault in row " + rows, rows, Long.parseLong(row.group(1)));
            UpperSteps x = new UpperSteps();
            due.is("README: text() of " + row.group(2), Long.parseLong(row.group(3)), Due.tell(x, row.group(2)));
            due.is("README: fault() of " + row.group(2), rows, x.fault());
            rows++;
        }
        due.is("README's rows of faults", 7, rows);
    }

    /** The answers below 0 that the page gives to each call, by way of that call. */
    private static void answers(String page) {
        row(page, "-1 `BAD`", UpperSteps.BAD, new UpperSteps().feed(128));
        UpperSteps x = Due.told("book 0 1 9;guest 0 5;");
        x.fetch(0, 0);
        row(page, "-2 `STATE`", UpperSteps.STATE, x.fetch(0, 0));
        row(page, "-2 `STATE`", UpperSteps.STATE, new UpperSteps().drift(1, 1, 0));
        row(page, "-2 `STATE`", UpperSteps.STATE, x.back(0));
        for (int i = 0; i < 160; i++) {
            x.feed(' ');
        }
        row(page, "-3 `FULL`", UpperSteps.FULL, x.feed(' '));
        for (int i = 0; i < 6; i++) {
            x.see(0, 0, 0);
        }
        row(page, "-3 `FULL`", UpperSteps.FULL, x.see(0, 0, 0));
        for (int i = 0; i < 33; i++) {
            x.days(30);
        }
        row(page, "-3 `FULL`", UpperSteps.FULL, x.days(10));
        row(page, "-4 `NONE`", UpperSteps.NONE, x.book(0, 2));
        row(page, "-10 less a place", -10, Due.tell(new UpperSteps(), ";"));
        row(page, "-11, -12", -11, x.lay(0, 0, 0));
        x.sheet(0, 0, 4);
        row(page, "-11, -12", -12, x.lay(0, 4, 0));
        row(page, "-14", -14, x.sheet(0, 0, -1));
        x.forgets(0);
        row(page, "-20 less i", -21, x.read(0, 0, 0, 2));
    }

    private static void row(String page, String first, long want, long got) {
        due.is("README has a row " + first, 1, page.contains("\n| " + first + " | ") ? 1 : 0);
        due.is("README: " + first, want, got);
    }

    /** Every call and every test has its name on the page, and no other test has. */
    private static void names(String page) throws Exception {
        for (String call : calls) {
            due.is("README names " + call, 1, page.contains("`" + call + "`") ? 1 : 0);
        }
        Set<String> tests = new HashSet<>();
        try (DirectoryStream<Path> files = Files.newDirectoryStream(Path.of("src/test/java"), "*Test.java")) {
            for (Path file : files) {
                tests.add(file.getFileName().toString().replace(".java", ""));
            }
        }
        Set<String> named = new HashSet<>();
        Matcher name = Pattern.compile("`(\\w+Test)`").matcher(page);
        while (name.find()) {
            named.add(name.group(1));
        }
        due.is("README names the tests " + tests + ", it names " + named, 1, tests.equals(named) ? 1 : 0);
    }
}
