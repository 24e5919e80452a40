import java.lang.reflect.InvocationTargetException;
import java.lang.reflect.Method;
import java.util.ArrayList;
import java.util.Arrays;
import java.util.Comparator;
import java.util.List;
import java.util.function.Consumer;

/** Whatever a call is given, in whatever state: it answers, or throws just one of the exceptions that the face names. */
public final class AnyArgumentsTest {
    private static final int CALLS = 400;
    private static final int[] NUMBERS = {Integer.MIN_VALUE, Integer.MIN_VALUE + 1, -65536, -32, -2, -1, 0, 1, 2, 3, 7, 8, 10,
        13, 14, 31, 32, 33, 99, 100, 255, 256, 599, 600, 601, 16383, 16384, 1 << 30, Integer.MAX_VALUE - 1, Integer.MAX_VALUE};
    private static final List<Consumer<PassagePicker>> STATES = List.of(
            picker -> { },
            picker -> picker.feed(-1, -1, -1, -1, -1),
            picker -> laid(picker, Samples.PAGE, Samples.QUERY),
            picker -> laid(picker, "a ".repeat(300), "item 9 a a a a;".repeat(8)),
            picker -> laid(picker, "a! ".repeat(200), "item 9 soft a;".repeat(8)),
            picker -> laid(picker, "? ! . - \u00c3 \u00a9 \u00c3\u00a9".repeat(20), "item 1 a*; item 2 soft b;"),
            picker -> laid(picker, "\"a&b\" <c> ".repeat(60), "item 1 soft a b; item 2 b c; item 3 c a;"),
            picker -> laid(picker, "\u00c3\u00a9".repeat(300), ""));

    private PassagePicker picker;
    private int calls;

    public static void main(String[] args) throws Exception {
        Method[] face = PassagePicker.class.getMethods();
        Arrays.sort(face, Comparator.comparing(Method::getName));
        for (int state = 0; state < STATES.size(); state++) {
            AnyArgumentsTest test = new AnyArgumentsTest();
            for (Method method : face) {
                if (method.getDeclaringClass() == PassagePicker.class && !method.getName().equals("feed")) {
                    test.callAll(method, state, new ArrayList<>());
                }
            }
            test.feedAll(state);
        }
        Check.finish();
    }

    private static void laid(PassagePicker picker, String page, String query) {
        Check.page(picker, page);
        Check.query(picker, query);
        picker.tell(1, 6);
        picker.tell(2, 100);
        picker.take(true);
        picker.write(600);
        Check.feed(picker, query);
    }

    // An object is used for 512 calls at most.
    private PassagePicker used(int state) {
        if (picker == null || calls == CALLS) {
            picker = new PassagePicker();
            STATES.get(state).accept(picker);
            calls = 0;
        }
        calls++;
        return picker;
    }

    private void callAll(Method method, int state, List<Object> given) throws IllegalAccessException {
        if (given.size() == method.getParameterCount()) {
            call(method, state, given);
            return;
        }
        boolean number = method.getParameterTypes()[given.size()] == int.class;
        for (int k = 0; k < (number ? NUMBERS.length : 2); k++) {
            given.add(number ? (Object) NUMBERS[k] : (Object) (k == 0));
            callAll(method, state, given);
            given.remove(given.size() - 1);
        }
    }

    private void call(Method method, int state, List<Object> given) throws IllegalAccessException {
        String what = method.getName() + given + " in state " + state;
        try {
            Object answer = method.invoke(used(state), given.toArray());
            Check.yes(what + " answers " + answer, answer instanceof Boolean || (Integer) answer >= PassagePicker.NONE);
        } catch (InvocationTargetException thrown) {
            Class<?> sort = thrown.getCause().getClass();
            Check.yes(what + " throws " + sort, List.of(method.getExceptionTypes()).contains(sort));
        }
    }

    private void feedAll(int state) {
        for (int a : NUMBERS) {
            PassagePicker fed = used(state);
            int was = fed.feed(a, 0, a, 0, a);
            Check.yes("feed in state " + state, was == PassagePicker.NONE || was >= 20 && was <= 600);
        }
    }
}
