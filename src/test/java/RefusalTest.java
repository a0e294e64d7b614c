import java.lang.reflect.InvocationTargetException;
import java.lang.reflect.Method;
import java.util.ArrayList;
import java.util.Arrays;
import java.util.Comparator;
import java.util.List;

/** Every call with every row of odd numbers: none throws, and what is refused changes nothing. */
public final class RefusalTest {
    private static final int[] ODD = {
        Integer.MIN_VALUE, Integer.MIN_VALUE + 1, -20, -4, -1, 0, 1, 3, 7, 8, 9, 10, 21, 41, 61, 128,
        10000, Integer.MAX_VALUE - 1, Integer.MAX_VALUE};
    private static final String TEXT =
            "book 2 3 1;book 5 6 2;book 1 9 9;guest 0 12;maid 1 9;lord 2 17;steps 4;";
    private static final List<String> ASKING = List.of("fault", "rule", "book", "reader", "runs", "ahead", "done",
            "vertigo", "order", "start", "swap", "knee", "need", "high", "luck", "mean", "kinds", "heights", "ask",
            "drift", "torn", "count");
    private static final Due due = new Due();

    public static void main(String[] args) throws IllegalAccessException {
        Method[] calls = UpperSteps.class.getDeclaredMethods();
        Arrays.sort(calls, Comparator.comparing(Method::getName));
        for (Method call : calls) {
            if (java.lang.reflect.Modifier.isPublic(call.getModifiers())) {
                tryAll(call, new UpperSteps());
                tryAll(call, lived());
            }
        }
        due.finish("RefusalTest");
    }

    private static UpperSteps lived() {
        UpperSteps x = Due.told(TEXT);
        x.see(1, 0, 2);
        x.keep(0);
        x.days(1);
        x.sheet(0, 0, 8);
        x.sheet(1, 1, 3);
        x.lay(0, 0, 2);
        x.feed(32);
        return x;
    }

    private static void tryAll(Method call, UpperSteps x) throws IllegalAccessException {
        int size = call.getParameterCount();
        int rows = 1;
        for (int i = 0; i < size; i++) {
            rows *= ODD.length;
        }
        List<Long> before = stateOf(x);
        for (int row = 0; row < rows; row++) {
            Object[] with = new Object[size];
            int rest = row;
            for (int i = 0; i < size; i++) {
                with[i] = ODD[rest % ODD.length];
                rest /= ODD.length;
            }
            Long answer = answerOf(call, x, with);
            String told = call.getName() + Arrays.toString(with);
            due.is(told + " threw", 0, answer == null ? 1 : 0);
            boolean refused = answer != null && answer < 0 && !changedThoughNegative(call, answer);
            if (refused || ASKING.contains(call.getName())) {
                due.is(told + " changed what is", 0, before.equals(stateOf(x)) ? 0 : 1);
            } else {
                before = stateOf(x);
            }
        }
    }

    /** NONE may be what was there; text() empties the tape. */
    private static boolean changedThoughNegative(Method call, long answer) {
        String name = call.getName();
        return name.equals("text") || answer == UpperSteps.NONE && (name.equals("shelve") || name.equals("alter"));
    }

    private static Long answerOf(Method call, UpperSteps x, Object[] with) throws IllegalAccessException {
        try {
            return ((Number) call.invoke(x, with)).longValue();
        } catch (InvocationTargetException thrown) {
            System.out.println(thrown.getCause());
            return null;
        }
    }

    private static List<Long> stateOf(UpperSteps x) {
        List<Long> state = new ArrayList<>();
        for (int what = 0; what < 6; what++) {
            state.add((long) x.rule(what));
            state.add((long) x.count(what));
        }
        for (int i = 0; i < 8; i++) {
            for (int what = 0; what < 6; what++) {
                state.add((long) x.book(i, what));
                state.add((long) x.reader(i, what));
            }
        }
        state.add((long) x.fault());
        state.add((long) x.torn());
        return state;
    }
}
