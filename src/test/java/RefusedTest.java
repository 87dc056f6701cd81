/**
 * Each refused call in each known state: it throws what the document says, and the calls behind it answer as if it had
 * not been. So do calls that answer NONE or 0 and change nothing.
 */
public final class RefusedTest {
    private static final String[] NUMBERS = {
        "meal -1 0", "meal 256 0", "meal 0 -1", "meal 0 256", "meal MIN 0", "meal MAX 0", "meal 0 MIN", "meal 0 MAX",
        "meal 256 256", "day -1", "day 256", "day MIN", "day MAX",
        "size 0 1", "size 201 1", "size 1 0", "size 1 10001", "size -1 1", "size 1 -1", "size MIN 1", "size MAX 1",
        "size 1 MIN", "size 1 MAX", "size 0 0",
        "prices -1 5", "prices 1001 5", "prices 5 -1", "prices 5 1001", "prices MIN 5", "prices MAX 5", "prices 5 MIN",
        "prices 5 MAX", "prices -1 -1",
        "come -1", "come 101", "come MIN", "come MAX",
        "hatch 0 0", "hatch 101 0", "hatch 1 -1", "hatch 1 4", "hatch -1 0", "hatch MIN 0", "hatch MAX 0",
        "hatch 1 MIN", "hatch 1 MAX", "hatch 0 4", "serve -1", "serve MIN",
    };

    /** Of a MEAL that there is. */
    private static final String[] NUMBERS_FOR_A_MEAL = {
        "ate 0 -1", "ate 0 1001", "ate 0 MIN", "ate 0 MAX", "split 0 -1 0", "split 0 256 0", "split 0 MIN 0",
        "split 0 MAX 0", "split 0 256 MAX", "leaf 0 -1 0", "leaf 0 256 0", "leaf 0 0 -1", "leaf 0 0 4", "leaf 0 MIN 0",
        "leaf 0 MAX 0", "leaf 0 0 MIN", "leaf 0 0 MAX", "cost 0 -1 0", "cost 0 256 0", "cost 0 0 -1", "cost 0 0 10001",
        "cost 0 MIN 0", "cost 0 MAX 0", "cost 0 0 MIN", "cost 0 0 MAX", "pots 0 -1 0 0", "pots 0 256 0 0",
        "pots 0 0 -1 0", "pots 0 0 10001 0", "pots 0 MIN 0 0", "pots 0 MAX 0 0", "pots 0 0 MIN 0", "pots 0 0 MAX 0",
        "pots 0 256 0 -1", "pots 0 0 -1 4",
    };

    /** The second ones are wrong in another way too: the document names the MEAL first. */
    private static final String[] WITH_A_MEAL = {
        "ate % 0", "ate % -1", "leaves %", "split % 0 0", "split % 256 0", "leaf % 0 0", "leaf % 256 4", "cost % 0 0",
        "cost % 256 10001", "pots % 0 0 0", "pots % 256 10001 4", "ladle %",
    };

    private static final String[] FULL_UP = {
        "meal 0 0", "meal 255 255", "meal 1 0", "day 0", "day 255", "size 1 1", "size 200 10000",
    };

    private static final String[] ONLY_LOOKING = {
        "count -1 = NONE", "count 5 = NONE", "count MIN = NONE", "count MAX = NONE", "ladles", "hatch 1 0",
        "hatch 100 3", "serve 0", "serve MAX = 1",
    };

    private static final String[] ONLY_LOOKING_AT_A_MEAL = {
        "leaves 0", "split 0 255 0", "split 0 0 -1 = NONE", "split 0 0 4 = NONE", "split 0 0 MAX = NONE",
        "leaf 0 255 3", "cost 0 255 10000", "pots 0 255 10000 0", "pots 0 0 0 MIN", "ladle 0",
    };

    public static void main(String[] args) {
        in("new", States.NEW, States.NEW_STAYS, 0, 0);
        in("some", States.SOME, States.SOME_STAYS, 2, 5);
        in("full", States.FULL, States.FULL_STAYS, 6, 150);
        in("empty again", States.EMPTY_AGAIN, States.EMPTY_AGAIN_STAYS, 2, 5);
        fullUp();
        Check.end();
    }

    private static void in(String state, String before, String behind, int meals, int days) {
        each(state, before, behind, " = ARGUMENT", NUMBERS);
        each(state, before, behind, "", ONLY_LOOKING);
        if (meals > 0) {
            each(state, before, behind, " = ARGUMENT", NUMBERS_FOR_A_MEAL);
            each(state, before, behind, "", ONLY_LOOKING_AT_A_MEAL);
        }
        for (String meal : new String[] {"-1", "" + meals, "MIN", "MAX"}) {
            String[] calls = new String[WITH_A_MEAL.length];
            for (int i = 0; i < calls.length; i++) {
                calls[i] = WITH_A_MEAL[i].replace("%", meal);
            }
            each(state, before, behind, " = INDEX", calls);
        }
        each(state, before, behind, " = INDEX", "drop -1", "drop " + days, "drop MIN", "drop MAX");
    }

    /** Each alone, and then all in one run: a call may leave a trace that only the next refused one shows. */
    private static void each(String state, String before, String behind, String due, String... calls) {
        for (String call : calls) {
            Run.of(state + ", " + call, before, call + due, "\n", behind);
        }
        Run.of(state + ", one behind the other", before, String.join(due + "\n", calls) + due, "\n", behind);
    }

    private static void fullUp() {
        each("full", States.FULL, States.FULL_STAYS, " = STATE", FULL_UP);
        each("full", States.FULL, States.FULL_STAYS, " = NONE", "come 0", "come 1", "come 100");
        each("some", States.SOME, States.SOME_STAYS, " = false", "drop 4");
        each("empty again", States.EMPTY_AGAIN, States.EMPTY_AGAIN_STAYS, " = false", "drop 0", "drop 3", "drop 4");
        each("empty again", States.EMPTY_AGAIN, States.EMPTY_AGAIN_STAYS, " = 0", "empty");
        each("new", States.NEW, States.NEW_STAYS, " = 0", "empty");
    }
}
