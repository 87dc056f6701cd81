import java.util.List;
import java.util.regex.Matcher;
import java.util.regex.Pattern;

/**
 * One run of calls on a new object, told as a text, a call a line (or several with ';' between them):
 *
 * <pre>
 *   meal 1 2 = 0          # the call meal(1, 2); 0 is due
 *   meal 256 0 = ARGUMENT # so are INDEX, STATE, NONE, true, false, and void for prices
 *   59 x come 0           # so many times; without '=' any answer is due, but no exception
 *   days 1:4 2*0:9        # DAYS by their MARKS and how many ate MEAL 0: ate 0 4, day 1, and twice ate 0 9, day 0
 * </pre>
 *
 * MIN and MAX are the least and the greatest int. A run beyond 512 calls is a fault: their answers are free.
 */
final class Run {
    private static final int MOST_CALLS = 512;
    private static final Pattern LINE = Pattern.compile("(?:(\\d+) x )?(\\w+)((?: -?\\w+)*)(?: = (\\S+))?");
    private static final Pattern DAY = Pattern.compile("(?:(\\d+)\\*)?(\\d+):(\\d+)");

    private final String where;
    private final CanteenPlan plan = new CanteenPlan();
    private int calls;

    private Run(String where) {
        this.where = where;
    }

    /** The parts are one run: so a state that several tests need is written once. */
    static void of(String where, String... parts) {
        Run run = new Run(where);
        for (String part : parts) {
            part.lines().forEach(run::calls);
        }
        run.end();
    }

    /** Two runs on two objects that live at once, a line of the one and a line of the other by turns. */
    static void byTurns(String where, String one, String other) {
        Run first = new Run(where + ", the one");
        Run second = new Run(where + ", the other");
        List<String> linesOfOne = one.lines().toList();
        List<String> linesOfOther = other.lines().toList();
        for (int i = 0; i < Math.max(linesOfOne.size(), linesOfOther.size()); i++) {
            first.calls(i < linesOfOne.size() ? linesOfOne.get(i) : "");
            second.calls(i < linesOfOther.size() ? linesOfOther.get(i) : "");
        }
        first.end();
        second.end();
    }

    private void end() {
        Check.same(where + ": within 512 calls", "" + (calls > 0 && calls <= MOST_CALLS), "true");
    }

    private void calls(String line) {
        for (String call : line.replaceFirst("#.*", "").split(";")) {
            if (!call.isBlank()) {
                line(call.strip());
            }
        }
    }

    private void line(String line) {
        if (line.startsWith("days ")) {
            for (String some : line.substring("days ".length()).split(" +")) {
                days(some);
            }
            return;
        }
        Matcher m = LINE.matcher(line);
        if (!m.matches()) {
            Check.same(where, "a line that is no call: " + line, "");
            return;
        }
        int[] arguments = numbers(m.group(3).strip());
        for (int i = 0; i < times(m.group(1)); i++) {
            call(line, m.group(2), arguments, m.group(4));
        }
    }

    private void days(String some) {
        Matcher m = DAY.matcher(some);
        if (!m.matches()) {
            Check.same(where, "days that are none: " + some, "");
            return;
        }
        for (int i = 0; i < times(m.group(1)); i++) {
            call(some, "ate", numbers("0 " + m.group(3)), null);
            call(some, "day", numbers(m.group(2)), null);
        }
    }

    private static int times(String written) {
        return written == null ? 1 : Integer.parseInt(written);
    }

    private static int[] numbers(String written) {
        if (written.isEmpty()) {
            return new int[0];
        }
        String[] words = written.split(" +");
        int[] numbers = new int[words.length];
        for (int i = 0; i < words.length; i++) {
            numbers[i] = words[i].equals("MIN") ? Integer.MIN_VALUE
                    : words[i].equals("MAX") ? Integer.MAX_VALUE : Integer.parseInt(words[i]);
        }
        return numbers;
    }

    private void call(String line, String name, int[] arguments, String due) {
        calls++;
        String got = Check.ask(plan, name, arguments);
        String there = where + ", call " + calls + ": " + line;
        if (due == null) {
            Check.same(there, got.startsWith("throws") ? got : "an answer", "an answer");
        } else {
            Check.same(there, got, answer(due));
        }
    }

    private static String answer(String due) {
        switch (due) {
            case "INDEX":
                return Check.INDEX;
            case "ARGUMENT":
                return Check.ARGUMENT;
            case "STATE":
                return Check.STATE;
            case "NONE":
                return "-1";
            case "void":
                return "null";
            default:
                return due;
        }
    }
}
