import java.util.Arrays;
import java.util.Random;

/** Random runs of up to 512 calls, each call's answer against SlowCanteen's. The seeds are fixed. */
public final class OracleTest {
    private static final String[] CALLS = {"meal", "ate", "ate", "ate", "day", "day", "day", "drop", "leaves", "split",
        "leaf", "size", "prices", "cost", "pots", "ladles", "ladle", "come", "come", "hatch", "serve", "empty",
        "count"};

    private final CanteenPlan quick = new CanteenPlan();
    private final SlowCanteen slow = new SlowCanteen();
    private final Random random;
    private final int run;
    private final int mostEaten;
    private final int marksUsed;

    private OracleTest(int run) {
        this.run = run;
        random = new Random(run);
        mostEaten = new int[] {2, 30, 40, 300, 1000}[run % 5];
        marksUsed = new int[] {255, 7, 0x55, 31, 0xF0, 255, 3}[run % 7];
    }

    public static void main(String[] args) {
        for (int run = 0; run < 600 && Check.isGood(); run++) {
            OracleTest test = new OracleTest(run);
            if (run % 3 == 0) {
                test.fill();
            }
            if (run % 4 == 0) {
                test.fillMinutes();
            }
            if (run % 5 == 1) {
                test.fillSizes();
            }
            for (int call = 0; call < 150 && Check.isGood(); call++) {
                test.anyCall(call);
            }
        }
        Check.end();
    }

    /** Many days, so that the trees are deep. */
    private void fill() {
        quick.meal(0, 0);
        slow.meal(0, 0);
        int days = 20 + random.nextInt(120);
        for (int d = 0; d < days; d++) {
            int marks = random.nextInt(256) & marksUsed;
            int bonus = Integer.bitCount(marks & run) * mostEaten / 10;
            int many = Math.min(1000, random.nextInt(mostEaten + 1) + bonus);
            quick.ate(0, many);
            slow.ate(0, many);
            quick.day(marks);
            slow.day(marks);
        }
    }

    /** Four small sizes of a price for each portion, or one for all, so that many sets are of equal cost. */
    private void fillSizes() {
        boolean isOneForAll = random.nextBoolean();
        for (int s = 0; s < 4; s++) {
            int portions = 1 + random.nextInt(6);
            int price = isOneForAll ? 2 : portions;
            quick.size(portions, price);
            slow.size(portions, price);
        }
        quick.prices(5, 9);
        slow.prices(5, 9);
    }

    private void fillMinutes() {
        int most = 1 + random.nextInt(100);
        for (int m = random.nextInt(61); m > 0; m--) {
            int many = random.nextInt(most + 1);
            quick.come(many);
            slow.come(many);
        }
    }

    /** Mostly a number within its bounds, now and then one on or beyond its edges. */
    private int number(int least, int most) {
        switch (random.nextInt(40)) {
            case 0:
                return least - 1;
            case 1:
                return most + 1;
            case 2:
                return least;
            case 3:
                return most;
            case 4:
                return random.nextInt();
            default:
                return least + random.nextInt(most - least + 1);
        }
    }

    private int meal() {
        return number(0, Math.max(0, slow.count(0) - 1));
    }

    private int marks() {
        return random.nextInt(3) == 0 ? number(0, 255) : number(0, 255) & marksUsed;
    }

    private int things() {
        return random.nextInt(30) == 0 ? number(0, 255) : 1 << random.nextInt(8) | 1 << random.nextInt(8);
    }

    /** Things that a MEAL bars, mostly none of its own. */
    private int barred(int in) {
        int bars = random.nextInt(30) == 0 ? number(0, 255) : random.nextInt(256) & random.nextInt(256);
        return random.nextInt(30) == 0 ? bars : bars & ~in;
    }

    private int left() {
        return random.nextInt(4) == 0 ? number(0, 10000) : random.nextInt(3) == 0 ? 0 : number(0, mostEaten);
    }

    private int portions() {
        return random.nextInt(3) == 0 ? number(1, 200) : number(1, Math.min(200, 2 + mostEaten / 3));
    }

    private int price() {
        return random.nextInt(8) == 0 ? number(1, 10000) : number(1, 6 + mostEaten / 5);
    }

    private int forOne() {
        return random.nextInt(3) == 0 ? number(0, 1000) : number(0, 4);
    }

    private void anyCall(int call) {
        String name = CALLS[random.nextInt(CALLS.length)];
        if (name.equals("empty") && random.nextInt(8) != 0) {
            // Rarely, so that lines grow long.
            name = "come";
        }
        int[] a = arguments(name);
        String where = "run " + run + ", call " + call + ": " + name + " " + Arrays.toString(a);
        Check.same(where, Check.ask(quick, name, a), Check.ask(slow, name, a));
    }

    private int[] arguments(String name) {
        switch (name) {
            case "meal":
                int in = things();
                return new int[] {in, barred(in)};
            case "ate":
                return new int[] {meal(), random.nextInt(30) == 0 ? number(0, 1000) : number(0, mostEaten)};
            case "day":
                return new int[] {marks()};
            case "drop":
                return new int[] {number(0, Math.max(0, slow.count(2) - 1))};
            case "leaves":
            case "ladle":
                return new int[] {meal()};
            case "split":
                return new int[] {meal(), marks(), number(0, 4)};
            case "leaf":
                return new int[] {meal(), marks(), number(0, 3)};
            case "size":
                return new int[] {portions(), price()};
            case "prices":
                return new int[] {forOne(), forOne()};
            case "cost":
                return new int[] {meal(), marks(), left()};
            case "pots":
                return new int[] {meal(), marks(), left(), number(0, 3)};
            case "come":
                return new int[] {number(0, 100)};
            case "hatch":
                return new int[] {random.nextBoolean() ? number(1, 100) : number(1, 10), number(0, 3)};
            case "serve":
                return new int[] {random.nextBoolean() ? number(0, 5) : number(0, 6000)};
            case "count":
                return new int[] {number(0, 4)};
            default:
                return new int[0];
        }
    }
}
