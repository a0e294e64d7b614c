import java.io.IOException;
import java.lang.reflect.Array;
import java.lang.reflect.Constructor;
import java.lang.reflect.Field;
import java.lang.reflect.Method;
import java.lang.reflect.Modifier;
import java.nio.file.Files;
import java.nio.file.Path;
import java.util.ArrayList;
import java.util.IdentityHashMap;
import java.util.List;
import java.util.Map;
import java.util.Set;
import java.util.TreeMap;
import java.util.TreeSet;
import java.util.regex.Matcher;
import java.util.regex.Pattern;

/** The form of the code: the face of the document, and those rules of LANGUAGE.md that can be looked up. */
public final class FormTest {
    private static final Path SOURCE = Path.of("src/main/java/UpperSteps.java");
    private static final Path DOCUMENT = Path.of("../shared/DOC.md");
    private static final Set<String> LIBRARY = Set.of("Math.abs", "Math.max", "Math.min", "Integer.bitCount",
            "System.arraycopy");
    private static int wrong = 0;

    public static void main(String[] args) throws Exception {
        face();
        members();
        words();
        methodLengths();
        depth();
        room();
        System.out.println("FormTest: " + wrong + " not as due");
        if (wrong != 0) {
            System.exit(1);
        }
    }

    private static void check(boolean holds, String what) {
        if (!holds) {
            wrong++;
            System.out.println("form: " + what);
        }
    }

    /** The document's methods and the class's, as lines. */
    private static void face() throws IOException {
        Set<String> due = new TreeSet<>();
        Matcher m = Pattern.compile("    public (int|long) (\\w+)\\(([^)]*)\\);").matcher(Files.readString(DOCUMENT));
        while (m.find()) {
            String types = m.group(3).replaceAll("(\\w+) \\w+", "$1").replace(" ", "");
            due.add(m.group(1) + " " + m.group(2) + "(" + types + ")");
        }
        Set<String> are = new TreeSet<>();
        for (Method method : UpperSteps.class.getDeclaredMethods()) {
            if (!Modifier.isPrivate(method.getModifiers())) {
                List<String> types = new ArrayList<>();
                for (Class<?> type : method.getParameterTypes()) {
                    types.add(type.getName());
                }
                are.add(method.getReturnType().getName() + " " + method.getName() + "(" + String.join(",", types) + ")");
            }
        }
        check(due.size() == 38, "the document has " + due.size() + " methods");
        check(due.equals(are), "face: due " + due + ", is " + are);
        check(Modifier.isFinal(UpperSteps.class.getModifiers()), "the class is not final");
        Constructor<?>[] made = UpperSteps.class.getDeclaredConstructors();
        check(made.length == 1 && Modifier.isPublic(made[0].getModifiers()), "constructors");
        Set<String> constants = new TreeSet<>();
        for (Field field : UpperSteps.class.getDeclaredFields()) {
            if (!Modifier.isPrivate(field.getModifiers())) {
                constants.add(field.getName());
            }
        }
        check(constants.equals(Set.of("BAD", "STATE", "FULL", "NONE")), "constants " + constants);
    }

    private static void members() {
        Set<String> open = new TreeSet<>();
        for (Method method : UpperSteps.class.getDeclaredMethods()) {
            if (Modifier.isPublic(method.getModifiers())) {
                open.add(method.getName());
            }
        }
        check(inAndOut().size() <= 12, "too many classes");
        for (Class<?> type : inAndOut()) {
            check(type == UpperSteps.class || Modifier.isStatic(type.getModifiers()), type + " is not static");
            int fields = 0;
            for (Field field : type.getDeclaredFields()) {
                boolean constant = Modifier.isStatic(field.getModifiers());
                fields += constant ? 0 : 1;
                check(!constant || Modifier.isFinal(field.getModifiers()), field + " is static state");
            }
            check(fields <= 20, type + " has " + fields + " fields");
            for (Method method : type.getDeclaredMethods()) {
                check(method.getParameterCount() <= 7, method + " takes too much");
                boolean own = !(type == UpperSteps.class && Modifier.isPublic(method.getModifiers()));
                check(!own || !open.contains(method.getName()), method + " bears the name of a public one");
            }
        }
    }

    private static String bare() throws IOException {
        String code = Files.readString(SOURCE);
        code = code.replaceAll("(?s)/\\*.*?\\*/", "").replaceAll("//[^\n]*", "");
        return code.replaceAll("\"[^\"\n]*\"", "\"\"").replaceAll("'[^'\n]+'", "' '");
    }

    private static void words() throws IOException {
        String code = bare();
        Matcher word = Pattern.compile("\\b(throw|throws|try|catch|finally|synchronized|assert|import|package|"
                + "instanceof|Object|double|float|volatile|native|transient|yield)\\b|->|::|static \\{").matcher(code);
        while (word.find()) {
            check(false, "'" + word.group() + "' stands in the code");
        }
        Matcher call = Pattern.compile("\\b(Math|Integer|Long|System|Arrays|String|StringBuilder|Character)\\.(\\w+)")
                .matcher(code);
        while (call.find()) {
            check(LIBRARY.contains(call.group()), call.group() + " is not of the library");
        }
        for (String line : code.split("\n")) {
            boolean made = line.contains("final") || line.contains("images[k] =") || line.contains("sheets[k] =");
            check(!line.matches(".*\\bnew\\b.*") || made, "made by a call: " + line.trim());
        }
        for (char c : Files.readString(SOURCE).toCharArray()) {
            check(c == '\n' || c >= 32 && c < 127, "an odd sign: " + (int) c);
        }
    }

    private static void methodLengths() throws IOException {
        int begun = 0;
        int line = 0;
        for (String text : Files.readString(SOURCE).split("\n")) {
            line++;
            if (text.matches(" {4}(    )?\\w.*\\) \\{")) {
                begun = line;
            }
            if (text.matches(" {4}(    )?\\}") && begun > 0) {
                check(line - begun < 60, "the method at line " + begun + " is long");
                begun = 0;
            }
        }
    }

    /** Rules 8 and 11: no method comes back to itself, and calls, those of the library too, go at most eight deep. */
    private static void depth() throws IOException {
        Map<String, Set<String>> called = new TreeMap<>();
        String within = "";
        for (String line : bare().split("\n")) {
            Matcher opened = Pattern.compile("^ {4}(?: {4})?(?:[\\w\\[\\]]+ )*(\\w+)\\([^()]*\\) \\{$").matcher(line);
            if (opened.find()) {
                within = opened.group(1);
                called.computeIfAbsent(within, name -> new TreeSet<>());
                continue;
            }
            Matcher call = Pattern.compile("(new )?\\b(\\w+)\\(").matcher(line);
            while (call.find()) {
                if (!within.isEmpty() && call.group(1) == null) {
                    called.get(within).add(call.group(2));
                }
            }
        }
        int methods = 0;
        for (Class<?> type : inAndOut()) {
            for (Method method : type.getDeclaredMethods()) {
                methods++;
                check(called.containsKey(method.getName()), method.getName() + " was not found in the code");
            }
        }
        check(methods > 38, "only " + methods + " methods were looked at");
        for (String name : called.keySet()) {
            int deep = depthOf(name, called, 1);
            check(deep <= 8, name + " goes " + deep + " deep");
        }
    }

    private static List<Class<?>> inAndOut() {
        List<Class<?>> all = new ArrayList<>(List.of(UpperSteps.class.getDeclaredClasses()));
        all.add(UpperSteps.class);
        return all;
    }

    /** Methods are told apart by name alone, which may make it deeper than it is, never less deep. */
    private static int depthOf(String name, Map<String, Set<String>> called, int level) {
        int deepest = level;
        // A method that comes back to itself would go down for ever.
        if (level > 20) {
            return level;
        }
        for (String next : called.getOrDefault(name, Set.of())) {
            deepest = Math.max(deepest, depthOf(next, called, level + 1));
        }
        return deepest;
    }

    /** What an object holds, all told: some thousands of them must find room together. */
    private static void room() throws IllegalAccessException {
        Map<Object, Boolean> met = new IdentityHashMap<>();
        UpperSteps x = Due.told("book 2 3 1;book 5 6 2;book 1 9 9;guest 0 12;maid 1 9;lord 2 17;steps 4;");
        long elements = visit(x, met);
        check(met.size() <= 120, met.size() + " objects");
        check(elements <= 2000, elements + " fields and elements");
    }

    private static long visit(Object o, Map<Object, Boolean> met) throws IllegalAccessException {
        if (o == null || met.put(o, true) != null) {
            return 0;
        }
        long sum = 0;
        if (o.getClass().isArray()) {
            sum += Array.getLength(o);
            if (!o.getClass().getComponentType().isPrimitive()) {
                for (Object part : (Object[]) o) {
                    sum += visit(part, met);
                }
            }
            return sum;
        }
        for (Field field : o.getClass().getDeclaredFields()) {
            if (!Modifier.isStatic(field.getModifiers())) {
                sum++;
                field.setAccessible(true);
                if (!field.getType().isPrimitive()) {
                    sum += visit(field.get(o), met);
                }
            }
        }
        return sum;
    }
}
