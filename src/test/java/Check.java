import java.lang.reflect.InvocationTargetException;
import java.lang.reflect.Method;

/** What the tests share: an answer as a text, a comparison, and the end of a test. */
final class Check {
    static final String INDEX = "throws.IndexOutOfBoundsException";
    static final String ARGUMENT = "throws.IllegalArgumentException";
    static final String STATE = "throws.IllegalStateException";

    private static int right = 0;
    private static int wrong = 0;

    interface Call {
        long run();
    }

    private Check() {
    }

    /** The exception's own class, not one above it: a machine's ArrayIndexOutOfBoundsException is a fault. */
    static String answer(Call call) {
        try {
            return Long.toString(call.run());
        } catch (RuntimeException e) {
            return "throws." + e.getClass().getSimpleName();
        }
    }

    /** The answer of a call by its name: an exception is told by its class, as in answer(). */
    static String ask(Object canteen, String name, int... arguments) {
        Class<?>[] types = new Class<?>[arguments.length];
        Object[] values = new Object[arguments.length];
        for (int i = 0; i < arguments.length; i++) {
            types[i] = int.class;
            values[i] = arguments[i];
        }
        try {
            Method method = canteen.getClass().getDeclaredMethod(name, types);
            return String.valueOf(method.invoke(canteen, values));
        } catch (InvocationTargetException e) {
            return "throws." + e.getCause().getClass().getSimpleName();
        } catch (ReflectiveOperationException e) {
            return "throws nothing, for it is not to be called: " + e;
        }
    }

    static void same(String where, String got, String due) {
        if (got.equals(due)) {
            right++;
            return;
        }
        wrong++;
        System.out.println(where + " answered " + got + ", due is " + due);
    }

    static void due(String where, long due, Call call) {
        same(where, answer(call), Long.toString(due));
    }

    static void due(String where, String due, Call call) {
        same(where, answer(call), due);
    }

    static boolean isGood() {
        return wrong == 0;
    }

    static void end() {
        System.out.println(right + " answers as due, " + wrong + " not");
        if (wrong != 0 || right == 0) {
            System.exit(1);
        }
    }
}
