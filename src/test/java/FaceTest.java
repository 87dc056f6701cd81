import java.lang.reflect.Constructor;
import java.lang.reflect.Field;
import java.lang.reflect.Member;
import java.lang.reflect.Method;
import java.lang.reflect.Modifier;
import java.util.ArrayList;
import java.util.Arrays;
import java.util.Collections;
import java.util.List;

/** The public face is the document's and nothing more, and calls make no objects, so that a run stays in its room. */
public final class FaceTest {
    private static final String[] FACE = {
        "int meal(int, int) IllegalArgumentException IllegalStateException",
        "int ate(int, int) IllegalArgumentException IndexOutOfBoundsException",
        "int day(int) IllegalArgumentException IllegalStateException",
        "boolean drop(int) IndexOutOfBoundsException",
        "int leaves(int) IndexOutOfBoundsException",
        "int split(int, int, int) IllegalArgumentException IndexOutOfBoundsException",
        "int leaf(int, int, int) IllegalArgumentException IndexOutOfBoundsException",
        "int size(int, int) IllegalArgumentException IllegalStateException",
        "void prices(int, int) IllegalArgumentException",
        "long cost(int, int, int) IllegalArgumentException IndexOutOfBoundsException",
        "int pots(int, int, int, int) IllegalArgumentException IndexOutOfBoundsException",
        "int ladles()",
        "int ladle(int) IndexOutOfBoundsException",
        "int come(int) IllegalArgumentException",
        "int hatch(int, int) IllegalArgumentException",
        "int serve(int) IllegalArgumentException",
        "int empty()",
        "int count(int)",
    };

    public static void main(String[] args) {
        methods();
        otherMembers();
        nestedClasses();
        room();
        Check.end();
    }

    private static void methods() {
        List<String> due = new ArrayList<>(Arrays.asList(FACE));
        List<String> got = new ArrayList<>();
        for (Method method : CanteenPlan.class.getDeclaredMethods()) {
            if (!Modifier.isPrivate(method.getModifiers())) {
                got.add(written(method));
                Check.same(method.getName() + " is public and of an object",
                        Modifier.toString(method.getModifiers()), "public");
            }
        }
        Collections.sort(due);
        Collections.sort(got);
        Check.same("the face", got.toString(), due.toString());
    }

    private static String written(Method method) {
        List<String> types = new ArrayList<>();
        for (Class<?> type : method.getParameterTypes()) {
            types.add(type.getSimpleName());
        }
        List<String> thrown = new ArrayList<>();
        for (Class<?> type : method.getExceptionTypes()) {
            thrown.add(type.getSimpleName());
        }
        Collections.sort(thrown);
        String head = method.getReturnType() + " " + method.getName() + "(" + String.join(", ", types) + ")";
        return thrown.isEmpty() ? head : head + " " + String.join(" ", thrown);
    }

    private static void otherMembers() {
        Check.same("the class", Modifier.toString(CanteenPlan.class.getModifiers()), "public final");
        List<String> seen = new ArrayList<>();
        for (Field field : CanteenPlan.class.getDeclaredFields()) {
            addIfSeen(seen, field);
            Check.same(field + " is a constant if static", "" + isConstantIfStatic(field), "true");
        }
        Check.same("fields", seen.toString(), "[public static final NONE]");
        seen.clear();
        for (Constructor<?> constructor : CanteenPlan.class.getDeclaredConstructors()) {
            addIfSeen(seen, constructor);
        }
        Check.same("constructors", seen.toString(), "[public CanteenPlan]");
    }

    private static void addIfSeen(List<String> seen, Member member) {
        if (!Modifier.isPrivate(member.getModifiers())) {
            seen.add(Modifier.toString(member.getModifiers()) + " " + member.getName());
        }
    }

    /** The rules allow rows too that are written out and never changed, but the class needs none. */
    private static boolean isConstantIfStatic(Field field) {
        boolean isOneValue = field.getType().isPrimitive() || field.getType() == String.class;
        return !Modifier.isStatic(field.getModifiers()) || Modifier.isFinal(field.getModifiers()) && isOneValue;
    }

    /** LANGUAGE.md, rules 1 and 5. */
    private static void nestedClasses() {
        for (Class<?> nested : CanteenPlan.class.getDeclaredClasses()) {
            int modifiers = nested.getModifiers();
            Check.same(nested + " is static and not seen from outside", "" + (Modifier.isStatic(modifiers)
                    && !Modifier.isPublic(modifiers) && !Modifier.isProtected(modifiers)), "true");
            for (Field field : nested.getDeclaredFields()) {
                Check.same(field + " is a constant if static", "" + isConstantIfStatic(field), "true");
            }
            for (Method method : nested.getDeclaredMethods()) {
                boolean isFaceName = Arrays.stream(FACE).anyMatch(f -> f.contains(" " + method.getName() + "("));
                Check.same(method + " bears no name of the face", "" + isFaceName, "false");
            }
        }
    }

    private static void room() {
        CanteenPlan x = new CanteenPlan();
        x.meal(1, 2);
        for (int d = 0; d < 150; d++) {
            x.ate(0, d * 37 % 1001);
            x.day(d * 91 & 255);
        }
        for (int s = 1; s <= 4; s++) {
            x.size(s * 11, s * 5);
        }
        dearCalls(x);
        com.sun.management.ThreadMXBean threads =
                (com.sun.management.ThreadMXBean) java.lang.management.ManagementFactory.getThreadMXBean();
        long before = threads.getCurrentThreadAllocatedBytes();
        for (int i = 0; i < 100; i++) {
            dearCalls(x);
        }
        long made = threads.getCurrentThreadAllocatedBytes() - before;
        Check.same("500 calls make less than 20,000 bytes, not " + made, "" + (made < 20_000), "true");
    }

    private static void dearCalls(CanteenPlan x) {
        x.cost(0, 77, 5);
        x.pots(0, 78, 5, 2);
        x.leaves(0);
        x.ladles();
        x.serve(3);
    }
}
