/** Promise by promise: ordinary inputs, the edges that the document names, and wrong inputs, all worked out by hand. */
public final class PromiseTest {
    private static final int NONE = CanteenPlan.NONE;

    public static void main(String[] args) {
        newObject();
        twoObjects();
        meal();
        ate();
        day();
        drop();
        leaves();
        split();
        treeTies();
        leaf();
        size();
        prices();
        cost();
        pots();
        potTies();
        ladles();
        ladle();
        come();
        hatch();
        serve();
        empty();
        count();
        order();
        refusedCallsChangeNothing();
        Check.end();
    }

    private static void newObject() {
        CanteenPlan x = new CanteenPlan();
        Check.due("1 NONE", -1, () -> CanteenPlan.NONE);
        for (int what = 0; what < 5; what++) {
            int w = what;
            Check.due("1 count " + w, 0, () -> x.count(w));
        }
        Check.due("1 ladles", 0, () -> x.ladles());
        Check.due("1 hatch last", NONE, () -> x.hatch(1, 2));
        Check.due("1 empty", 0, () -> x.empty());
        x.meal(0, 0);
        Check.due("1 told", 0, () -> x.ate(0, 0));
        x.ate(0, 10);
        x.day(0);
        Check.due("1 want is 3 at first", 30, () -> x.cost(0, 0, 0));
        Check.due("1 waste is 1 at first", 5, () -> x.cost(0, 0, 15));
    }

    private static void twoObjects() {
        CanteenPlan x = withDays(1, 4, 1, 4, 0, 9, 0, 9);
        CanteenPlan y = withDays(0, 7);
        x.size(4, 1);
        x.come(3);
        y.meal(1, 1);
        y.prices(0, 5);
        Check.due("1 the other's day", 7, () -> y.leaf(0, 1, 1));
        Check.due("1 the other's cost", 35, () -> y.cost(0, 0, 0));
        Check.due("1 one's cost", 2, () -> x.cost(0, 1, 0));
        Check.due("1 the other's pots", 0, () -> y.pots(0, 0, 0, 0));
        Check.due("1 one's pots", 1, () -> x.pots(0, 1, 0, 0));
        Check.due("1 the other's ladles", NONE, () -> y.ladles());
        Check.due("1 one's ladles", 1, () -> x.ladles());
        Check.due("1 the other's minutes", 0, () -> y.empty());
        Check.due("1 one's minutes", 1, () -> x.empty());
    }

    private static void meal() {
        CanteenPlan x = new CanteenPlan();
        for (int m = 0; m < 6; m++) {
            int n = m;
            Check.due("2 meal " + n, n, () -> x.meal(n, 0));
        }
        Check.due("2 a seventh", Check.STATE, () -> x.meal(0, 0));
        Check.due("2 there are 6", 6, () -> x.count(0));
        CanteenPlan y = new CanteenPlan();
        Check.due("2 in -1", Check.ARGUMENT, () -> y.meal(-1, 0));
        Check.due("2 in 256", Check.ARGUMENT, () -> y.meal(256, 0));
        Check.due("2 barred -1", Check.ARGUMENT, () -> y.meal(0, -1));
        Check.due("2 barred 256", Check.ARGUMENT, () -> y.meal(0, 256));
        Check.due("2 least int", Check.ARGUMENT, () -> y.meal(Integer.MIN_VALUE, 0));
        Check.due("2 greatest int", Check.ARGUMENT, () -> y.meal(0, Integer.MAX_VALUE));
        Check.due("2 both 255", 0, () -> y.meal(255, 255));
    }

    private static void ate() {
        CanteenPlan x = new CanteenPlan();
        Check.due("3 no meal", Check.INDEX, () -> x.ate(0, 1));
        x.meal(0, 0);
        x.meal(0, 0);
        Check.due("3 at first", 0, () -> x.ate(0, 1000));
        Check.due("3 again", 1000, () -> x.ate(0, 0));
        Check.due("3 and again", 0, () -> x.ate(0, 17));
        Check.due("3 the other", 0, () -> x.ate(1, 5));
        Check.due("3 many -1", Check.ARGUMENT, () -> x.ate(0, -1));
        Check.due("3 many 1001", Check.ARGUMENT, () -> x.ate(0, 1001));
        Check.due("3 meal -1", Check.INDEX, () -> x.ate(-1, 0));
        Check.due("3 meal 2", Check.INDEX, () -> x.ate(2, 0));
        Check.due("3 untouched by what was refused", 17, () -> x.ate(0, 18));
        x.day(0);
        Check.due("3 behind a day", 0, () -> x.ate(0, 1));
        Check.due("3 behind a day, the other", 0, () -> x.ate(1, 1));
        x.meal(0, 0);
        Check.due("3 a later meal leaves what was told", 1, () -> x.ate(0, 2));
        Check.due("3 nothing of a later meal", 0, () -> x.ate(2, 2));
    }

    private static void day() {
        CanteenPlan x = new CanteenPlan();
        Check.due("4 -1", Check.ARGUMENT, () -> x.day(-1));
        Check.due("4 256", Check.ARGUMENT, () -> x.day(256));
        Check.due("4 without meals", 0, () -> x.day(255));
        x.meal(0, 0);
        x.ate(0, 9);
        Check.due("4 next", 1, () -> x.day(0));
        Check.due("4 what was told", 9, () -> x.leaf(0, 0, 1));
        Check.due("4 0 of a later meal", 0, () -> x.leaf(0, 0, 2));
        Check.due("4 nothing told", 2, () -> x.day(1));
        Check.due("4 0 if nothing was told", 9, () -> x.leaf(0, 0, 1));
        x.drop(2);
        for (int d = 3; d < 150; d++) {
            int n = d;
            Check.due("4 number behind a drop", n, () -> x.day(0));
        }
        x.ate(0, 77);
        Check.due("4 there were 150", Check.STATE, () -> x.day(0));
        Check.due("4 a refused day leaves what was told", 77, () -> x.ate(0, 78));
        x.drop(5);
        Check.due("4 dropped ones count", Check.STATE, () -> x.day(0));
    }

    private static long taken(CanteenPlan x, int day) {
        return x.drop(day) ? 1 : 0;
    }

    private static void drop() {
        CanteenPlan x = new CanteenPlan();
        x.meal(0, 0);
        Check.due("5 none", Check.INDEX, () -> taken(x, 0));
        addDays(x, 0, 4, 1, 20, 0, 0);
        Check.due("5 -1", Check.INDEX, () -> taken(x, -1));
        Check.due("5 beyond", Check.INDEX, () -> taken(x, 3));
        Check.due("5 first", 1, () -> taken(x, 0));
        Check.due("5 again", 0, () -> taken(x, 0));
        Check.due("5 is away", 20, () -> x.leaf(0, 0, 1));
        Check.due("5 days left", 2, () -> x.count(1));
        Check.due("5 days in all", 3, () -> x.count(2));
        x.ate(0, 3);
        x.drop(1);
        Check.due("5 what is told stays", 3, () -> x.ate(0, 4));
        x.drop(2);
        Check.due("5 all away", 0, () -> x.leaf(0, 0, 0));
        Check.due("5 all away, cost", NONE, () -> x.cost(0, 0, 0));
        Check.due("5 all away, leaves", 1, () -> x.leaves(0));
        Check.due("5 numbers are not given again", 3, () -> x.day(0));
    }

    /** Days by pairs: marks, and how many ate meal 0. */
    private static void addDays(CanteenPlan x, int... pairs) {
        for (int i = 0; i < pairs.length; i += 2) {
            x.ate(0, pairs[i + 1]);
            x.day(pairs[i]);
        }
    }

    private static CanteenPlan withDays(int... pairs) {
        CanteenPlan x = new CanteenPlan();
        x.meal(0, 0);
        addDays(x, pairs);
        return x;
    }

    private static void leaves() {
        Check.due("6 no meal", Check.INDEX, () -> new CanteenPlan().leaves(0));
        Check.due("6 no days", 1, () -> withDays().leaves(0));
        Check.due("6 meal -1", Check.INDEX, () -> withDays().leaves(-1));
        Check.due("6 meal 1", Check.INDEX, () -> withDays().leaves(1));
        Check.due("6 two sides of two", 2, () -> withDays(1, 5, 1, 5, 0, 6, 0, 6).leaves(0));
        Check.due("6 a side of one", 1, () -> withDays(1, 5, 0, 6, 0, 6, 0, 6).leaves(0));
        Check.due("6 the other side of one", 1, () -> withDays(1, 5, 1, 5, 1, 5, 0, 6).leaves(0));
        Check.due("6 nothing gained", 1, () -> withDays(1, 5, 1, 7, 0, 6, 0, 6).leaves(0));
        Check.due("6 nothing gained in 3 to 2", 1, () -> withDays(1, 1, 1, 2, 1, 3, 0, 1, 0, 3).leaves(0));
        Check.due("6 a little gained", 2, () -> withDays(1, 1000, 1, 0, 0, 1000, 0, 1).leaves(0));
        CanteenPlan x = new CanteenPlan();
        x.meal(0, 0);
        // five marks that each tell something: only four may stand on a way, so 16 leaves of four days
        for (int d = 0; d < 64; d++) {
            x.ate(0, Integer.reverse(d & 31) >>> 27);
            x.day(d & 31);
        }
        Check.due("6 four marks deep", 16, () -> x.leaves(0));
        Check.due("6 days of such a leaf", 4, () -> x.leaf(0, 31, 0));
    }

    private static void split() {
        Check.due("7 no meal", Check.INDEX, () -> new CanteenPlan().split(0, 0, 0));
        Check.due("7 no days", NONE, () -> withDays().split(0, 0, 0));
        CanteenPlan x = withDays();
        for (int d = 0; d < 64; d++) {
            addDays(x, d & 31, Integer.reverse(d & 31) >>> 27);
        }
        for (int k = 0; k < 4; k++) {
            int n = k;
            Check.due("7 knot " + n, n, () -> x.split(0, 21, n));
        }
        Check.due("7 the leaf", NONE, () -> x.split(0, 21, 4));
        Check.due("7 beyond", NONE, () -> x.split(0, 21, 5));
        Check.due("7 far beyond", NONE, () -> x.split(0, 21, Integer.MAX_VALUE));
        Check.due("7 before the first", NONE, () -> x.split(0, 21, -1));
        Check.due("7 far before", NONE, () -> x.split(0, 21, Integer.MIN_VALUE));
        Check.due("7 marks -1", Check.ARGUMENT, () -> x.split(0, -1, 0));
        Check.due("7 marks 256", Check.ARGUMENT, () -> x.split(0, 256, 0));
        Check.due("7 meal 1", Check.INDEX, () -> x.split(1, 0, 0));
        CanteenPlan y = withDays(128, 1, 128, 1, 0, 9, 0, 9, 0x40, 20, 0x40, 20);
        // mark 6 alone: 20 20 against 1 1 9 9; mark 7 alone: 1 1 against 9 9 20 20
        Check.due("7 the greater gain first", 6, () -> y.split(0, 0, 0));
        Check.due("7 then the other", 7, () -> y.split(0, 0, 1));
        Check.due("7 the side that has it is a leaf", NONE, () -> y.split(0, 0x40, 1));
    }

    private static void treeTies() {
        CanteenPlan x = withDays(0x24, 1, 0x24, 1, 0, 9, 0, 9);
        Check.due("7 of equals the least mark", 2, () -> x.split(0, 0, 0));
        // marks 3 and 1 part alike well, by different days
        CanteenPlan y = withDays(8, 10, 8, 10, 2, 0, 2, 0, 0, 5, 0, 5);
        Check.due("7 of equal gains the least mark", 1, () -> y.split(0, 0, 0));
        // mark 0 by 3 to 3: 50 against 10; mark 1 by 2 to 4: 39 against 21. Their gains are 9 * (40 / 3)^2 / 6 and
        // 8 * (57 / 4)^2 / 6: the fraction is greater for mark 1, its top alone for mark 0
        CanteenPlan z = withDays(3, 20, 3, 19, 1, 11, 0, 3, 0, 3, 0, 4);
        Check.due("7 sides of 2 and 4", 1, () -> z.split(0, 0, 0));
    }

    private static void leaf() {
        Check.due("8 no meal", Check.INDEX, () -> new CanteenPlan().leaf(0, 0, 0));
        for (int what = 0; what < 4; what++) {
            int w = what;
            Check.due("8 without days " + w, 0, () -> withDays().leaf(0, 7, w));
        }
        CanteenPlan x = withDays(1, 8, 1, 3, 1, 5, 0, 900, 0, 1000);
        long[] due = {3, 16, 3, 8};
        long[] other = {2, 1900, 900, 1000};
        for (int what = 0; what < 4; what++) {
            int w = what;
            Check.due("8 leaf " + w, due[w], () -> x.leaf(0, 255, w));
            Check.due("8 the other leaf " + w, other[w], () -> x.leaf(0, 254, w));
        }
        Check.due("8 what -1", Check.ARGUMENT, () -> x.leaf(0, 0, -1));
        Check.due("8 what 4", Check.ARGUMENT, () -> x.leaf(0, 0, 4));
        Check.due("8 marks -1", Check.ARGUMENT, () -> x.leaf(0, -1, 0));
        Check.due("8 marks 256", Check.ARGUMENT, () -> x.leaf(0, 256, 0));
        Check.due("8 meal -1", Check.INDEX, () -> x.leaf(-1, 0, 0));
        x.meal(0, 0);
        Check.due("8 a later meal's days", 5, () -> x.leaf(1, 0, 0));
        Check.due("8 a later meal's greatest", 0, () -> x.leaf(1, 0, 3));
    }

    private static void size() {
        CanteenPlan x = new CanteenPlan();
        Check.due("9 portions 0", Check.ARGUMENT, () -> x.size(0, 1));
        Check.due("9 portions 201", Check.ARGUMENT, () -> x.size(201, 1));
        Check.due("9 price 0", Check.ARGUMENT, () -> x.size(1, 0));
        Check.due("9 price 10001", Check.ARGUMENT, () -> x.size(1, 10001));
        Check.due("9 least", 0, () -> x.size(1, 1));
        Check.due("9 greatest", 1, () -> x.size(200, 10000));
        Check.due("9 equal to another", 2, () -> x.size(1, 1));
        Check.due("9 the last", 3, () -> x.size(5, 5));
        Check.due("9 a fifth", Check.STATE, () -> x.size(5, 5));
        Check.due("9 there are 4", 4, () -> x.count(3));
    }

    private static long setPrices(CanteenPlan x, int waste, int want) {
        x.prices(waste, want);
        return 0;
    }

    private static void prices() {
        CanteenPlan x = withDays(0, 10);
        Check.due("10 both greatest", 0, () -> setPrices(x, 1000, 1000));
        Check.due("10 want", 10000, () -> x.cost(0, 0, 0));
        Check.due("10 waste", 1000, () -> x.cost(0, 0, 11));
        Check.due("10 waste -1", Check.ARGUMENT, () -> setPrices(x, -1, 5));
        Check.due("10 waste 1001", Check.ARGUMENT, () -> setPrices(x, 1001, 5));
        Check.due("10 want -1", Check.ARGUMENT, () -> setPrices(x, 5, -1));
        Check.due("10 want 1001", Check.ARGUMENT, () -> setPrices(x, 5, 1001));
        Check.due("10 want as before", 10000, () -> x.cost(0, 0, 0));
        Check.due("10 waste as before", 1000, () -> x.cost(0, 0, 11));
        Check.due("10 both 0", 0, () -> setPrices(x, 0, 0));
        Check.due("10 nothing to pay", 0, () -> x.cost(0, 0, 0));
        Check.due("10 they are not changed for each other", 0, () -> setPrices(x, 2, 7));
        Check.due("10 want 7", 70, () -> x.cost(0, 0, 0));
        Check.due("10 waste 2", 4, () -> x.cost(0, 0, 12));
    }

    private static void cost() {
        Check.due("11 no meal", Check.INDEX, () -> new CanteenPlan().cost(0, 0, 0));
        Check.due("11 no days", NONE, () -> withDays().cost(0, 0, 0));
        CanteenPlan x = withDays(0, 10, 0, 14);
        Check.due("11 no sizes", 72, () -> x.cost(0, 0, 0));
        Check.due("11 no sizes, some left", 2 + 6, () -> x.cost(0, 0, 12));
        x.size(5, 4);
        Check.due("11 a price for each day", 2 * 8 + 4 * 3, () -> x.cost(0, 0, 0));
        Check.due("11 left between", 2 * 0 + 2 + 3 * 2, () -> x.cost(0, 0, 12));
        Check.due("11 one pot and left", 2 * 4 + 3 + 3 * 1, () -> x.cost(0, 0, 8));
        Check.due("11 left 10000", 9990 + 9986, () -> x.cost(0, 0, 10000));
        Check.due("11 left 10001", Check.ARGUMENT, () -> x.cost(0, 0, 10001));
        Check.due("11 left -1", Check.ARGUMENT, () -> x.cost(0, 0, -1));
        Check.due("11 marks 256", Check.ARGUMENT, () -> x.cost(0, 256, 0));
        Check.due("11 marks -1", Check.ARGUMENT, () -> x.cost(0, -1, 0));
        Check.due("11 meal 1", Check.INDEX, () -> x.cost(1, 0, 0));
        CanteenPlan y = withDays();
        for (int d = 0; d < 150; d++) {
            y.day(0);
        }
        y.prices(1000, 0);
        Check.due("11 all waste", 1_500_000_000L, () -> y.cost(0, 0, 10000));
        CanteenPlan z = withDays();
        for (int d = 0; d < 150; d++) {
            addDays(z, 0, 1000);
        }
        z.prices(1000, 1000);
        Check.due("11 nearly all waste", 150L * 1000 * 9000, () -> z.cost(0, 0, 10000));
        z.size(80, 1);
        Check.due("11 twelve pots at most", 150L * 12 + 150L * 40 * 1000, () -> z.cost(0, 0, 0));
        Check.due("11 eaten exactly", 0, () -> z.cost(0, 0, 1000));
        Check.due("11 one above", 150_000, () -> z.cost(0, 0, 1001));
        Check.due("11 one below", 150_000, () -> z.cost(0, 0, 999));
    }

    private static void pots() {
        Check.due("12 no meal", Check.INDEX, () -> new CanteenPlan().pots(0, 0, 0, 0));
        Check.due("12 no days", NONE, () -> withDays().pots(0, 0, 0, 0));
        Check.due("12 no days, no such size", NONE, () -> withDays().pots(0, 0, 0, 9));
        CanteenPlan x = withDays(0, 30, 0, 30);
        Check.due("12 no sizes", 0, () -> x.pots(0, 0, 0, 0));
        x.size(7, 1);
        x.size(10, 1);
        Check.due("12 of size 0", 0, () -> x.pots(0, 0, 0, 0));
        Check.due("12 of size 1", 3, () -> x.pots(0, 0, 0, 1));
        Check.due("12 of size 2", 0, () -> x.pots(0, 0, 0, 2));
        Check.due("12 of size -1", 0, () -> x.pots(0, 0, 0, -1));
        Check.due("12 of the greatest int", 0, () -> x.pots(0, 0, 0, Integer.MAX_VALUE));
        Check.due("12 with some left", 2, () -> x.pots(0, 0, 16, 0));
        Check.due("12 left -1", Check.ARGUMENT, () -> x.pots(0, 0, -1, 0));
        Check.due("12 left 10001", Check.ARGUMENT, () -> x.pots(0, 0, 10001, 0));
        Check.due("12 marks 256", Check.ARGUMENT, () -> x.pots(0, 256, 0, 0));
        Check.due("12 meal -1", Check.INDEX, () -> x.pots(-1, 0, 0, 0));
        x.prices(0, 1000);
        CanteenPlan y = withDays(0, 1000);
        y.prices(1000, 1000);
        y.size(1, 1);
        Check.due("12 twelve at most", 12, () -> y.pots(0, 0, 0, 0));
        y.size(2, 1);
        y.size(3, 1);
        y.size(4, 1);
        Check.due("12 twelve of the last", 12, () -> y.pots(0, 0, 0, 3));
        Check.due("12 none of the first", 0, () -> y.pots(0, 0, 0, 0));
    }

    private static void potTies() {
        // a pot costs just what it spares: the empty SET has the fewest portions
        CanteenPlan x = withDays(0, 10);
        x.size(1, 3);
        Check.due("12 fewest portions", 0, () -> x.pots(0, 0, 0, 0));
        // 12 portions of the price 6 each way: two pots of 6 before three of 4
        CanteenPlan y = withDays(0, 12);
        y.size(4, 2);
        y.size(6, 3);
        Check.due("12 fewest pots, of size 1", 2, () -> y.pots(0, 0, 0, 1));
        Check.due("12 fewest pots, of size 0", 0, () -> y.pots(0, 0, 0, 0));
        // 8 portions by two pots of the price 4: 2 + 6 or 4 + 4, so the most of SIZE 0 that the pair allows
        CanteenPlan z = withDays(0, 8);
        z.size(4, 2);
        z.size(2, 2);
        z.size(6, 2);
        Check.due("12 most of size 0", 2, () -> z.pots(0, 0, 0, 0));
        CanteenPlan w = withDays(0, 8);
        w.size(1, 100);
        w.size(6, 2);
        w.size(4, 2);
        w.size(2, 2);
        Check.due("12 then most of size 1", 1, () -> w.pots(0, 0, 0, 1));
        Check.due("12 and of size 3", 1, () -> w.pots(0, 0, 0, 3));
        Check.due("12 and not of size 2", 0, () -> w.pots(0, 0, 0, 2));
        CanteenPlan u = withDays(0, 8);
        u.size(1, 100);
        u.size(1, 100);
        u.size(4, 2);
        u.size(6, 2);
        Check.due("12 an unlike pair lacks its other half", 2, () -> u.pots(0, 0, 0, 2));
        CanteenPlan t = withDays(0, 8);
        t.size(1, 100);
        t.size(1, 100);
        t.size(8, 2);
        t.size(8, 2);
        Check.due("12 then most of size 2", 1, () -> t.pots(0, 0, 0, 2));
        Check.due("12 and none of size 3", 0, () -> t.pots(0, 0, 0, 3));
        CanteenPlan v = withDays(0, 8);
        v.size(8, 1);
        v.size(8, 1);
        Check.due("12 of equal sizes the first", 1, () -> v.pots(0, 0, 0, 0));
        Check.due("12 of equal sizes not the second", 0, () -> v.pots(0, 0, 0, 1));
    }

    private static void ladles() {
        CanteenPlan x = new CanteenPlan();
        Check.due("13 no meals", 0, () -> x.ladles());
        x.meal(1, 0);
        Check.due("13 one meal", 1, () -> x.ladles());
        x.meal(1, 2);
        Check.due("13 two that go together", 1, () -> x.ladles());
        x.meal(2, 0);
        Check.due("13 barred by an earlier one", 2, () -> x.ladles());
        x.meal(0, 1);
        Check.due("13 bars an earlier one", 2, () -> x.ladles());
        x.meal(128, 128);
        Check.due("13 bars itself", NONE, () -> x.ladles());
        CanteenPlan y = new CanteenPlan();
        for (int m = 0; m < 6; m++) {
            y.meal(1 << m, 63 & ~(1 << m));
        }
        Check.due("13 six apart", 6, () -> y.ladles());
    }

    private static void ladle() {
        CanteenPlan x = new CanteenPlan();
        Check.due("14 no meal", Check.INDEX, () -> x.ladle(0));
        Check.due("14 meal -1", Check.INDEX, () -> x.ladle(-1));
        // 0, 3, 2, 1 and 5 stand in a ring, each barred from the next: five in a ring need three
        x.meal(1, 8 | 32);
        x.meal(2, 4 | 32);
        x.meal(4, 2 | 8);
        x.meal(8, 1 | 4);
        x.meal(16, 0);
        x.meal(32, 1 | 2);
        int[] due = {0, 0, 1, 2, 0, 1};
        Check.due("14 how many", 3, () -> x.ladles());
        for (int m = 0; m < 6; m++) {
            int n = m;
            Check.due("14 ladle of " + n, due[n], () -> x.ladle(n));
        }
        Check.due("14 meal 6", Check.INDEX, () -> x.ladle(6));
        // a path of four, its ends first: greedy would give both ends LADLE 0 and need a third
        CanteenPlan y = new CanteenPlan();
        y.meal(1, 0);
        y.meal(8, 0);
        y.meal(2, 1);
        y.meal(4, 2 | 8);
        int[] path = {0, 1, 1, 0};
        Check.due("14 two are enough", 2, () -> y.ladles());
        for (int m = 0; m < 4; m++) {
            int n = m;
            Check.due("14 path " + n, path[n], () -> y.ladle(n));
        }
        y.meal(64, 64);
        Check.due("14 one bars itself", NONE, () -> y.ladle(0));
        Check.due("14 and itself", NONE, () -> y.ladle(4));
        Check.due("14 no such meal all the same", Check.INDEX, () -> y.ladle(5));
    }

    private static void come() {
        CanteenPlan x = new CanteenPlan();
        Check.due("15 -1", Check.ARGUMENT, () -> x.come(-1));
        Check.due("15 101", Check.ARGUMENT, () -> x.come(101));
        for (int m = 1; m <= 60; m++) {
            int n = m;
            Check.due("15 minute " + n, n, () -> x.come(n == 60 ? 100 : 0));
        }
        Check.due("15 a minute too many", NONE, () -> x.come(5));
        Check.due("15 it did nothing", 60, () -> x.count(4));
        Check.due("15 the last ones", 59, () -> x.hatch(100, 2));
        Check.due("15 a wrong number all the same", Check.ARGUMENT, () -> x.come(101));
    }

    private static void hatch() {
        CanteenPlan x = new CanteenPlan();
        long[] nobody = {0, 0, NONE, 0};
        for (int what = 0; what < 4; what++) {
            int w = what;
            Check.due("16 no minutes " + w, nobody[w], () -> x.hatch(3, w));
        }
        x.come(0);
        Check.due("16 a minute without anybody", NONE, () -> x.hatch(1, 2));
        x.come(5);
        x.come(0);
        x.come(1);
        x.come(0);
        // 2 each minute: minute 1: 2 go, 3 left; minute 2: 2 go, 1 left; minute 3: one of minute 1, and the last
        long[] byTwo = {2, 2 + 2, 3, 3};
        // 1 each minute: they go in 1, 2, 3, 4, 5, and the last one in 6
        long[] byOne = {4, 0 + 1 + 2 + 3 + 4 + 3, 6, 4};
        long[] byFive = {0, 0, 3, 0};
        for (int what = 0; what < 4; what++) {
            int w = what;
            Check.due("16 serves 2, " + w, byTwo[w], () -> x.hatch(2, w));
            Check.due("16 serves 1, " + w, byOne[w], () -> x.hatch(1, w));
            Check.due("16 serves 5, " + w, byFive[w], () -> x.hatch(5, w));
        }
        Check.due("16 serves 0", Check.ARGUMENT, () -> x.hatch(0, 0));
        Check.due("16 serves 101", Check.ARGUMENT, () -> x.hatch(101, 0));
        Check.due("16 what -1", Check.ARGUMENT, () -> x.hatch(1, -1));
        Check.due("16 what 4", Check.ARGUMENT, () -> x.hatch(1, 4));
        CanteenPlan y = new CanteenPlan();
        for (int m = 0; m < 60; m++) {
            y.come(100);
        }
        Check.due("16 the greatest line", 5999, () -> y.hatch(1, 2));
        Check.due("16 the greatest wait", 5999 - 59, () -> y.hatch(1, 0));
        Check.due("16 the sum", 5999L * 6000 / 2 - 100L * 59 * 60 / 2, () -> y.hatch(1, 1));
        Check.due("16 the longest", 5940, () -> y.hatch(1, 3));
        Check.due("16 serves 100", 0, () -> y.hatch(100, 3));
    }

    private static void serve() {
        CanteenPlan x = new CanteenPlan();
        Check.due("17 nobody came", 1, () -> x.serve(0));
        x.come(0);
        Check.due("17 nobody in a minute", 1, () -> x.serve(0));
        x.come(100);
        Check.due("17 at once", 100, () -> x.serve(0));
        Check.due("17 in two minutes", 50, () -> x.serve(1));
        Check.due("17 in three", 34, () -> x.serve(2));
        Check.due("17 just", 2, () -> x.serve(49));
        Check.due("17 not yet one", 2, () -> x.serve(98));
        Check.due("17 one by one", 1, () -> x.serve(99));
        Check.due("17 any time", 1, () -> x.serve(Integer.MAX_VALUE));
        Check.due("17 -1", Check.ARGUMENT, () -> x.serve(-1));
        Check.due("17 least int", Check.ARGUMENT, () -> x.serve(Integer.MIN_VALUE));
    }

    private static void empty() {
        CanteenPlan x = new CanteenPlan();
        x.come(7);
        x.come(8);
        Check.due("18 two minutes", 2, () -> x.empty());
        Check.due("18 none any more", 0, () -> x.empty());
        Check.due("18 nobody", NONE, () -> x.hatch(1, 2));
        Check.due("18 from 0 on again", 1, () -> x.come(0));
        Check.due("18 the old ones are gone", 2, () -> x.come(3));
        Check.due("18 greatest wait", 2, () -> x.hatch(1, 0));
        Check.due("18 last", 3, () -> x.hatch(1, 2));
        for (int m = 0; m < 60; m++) {
            x.come(1);
        }
        Check.due("18 sixty", 60, () -> x.empty());
        Check.due("18 there is room again", 1, () -> x.come(1));
    }

    private static void count() {
        CanteenPlan x = withDays(0, 1, 0, 2, 0, 3);
        x.meal(0, 0);
        x.drop(1);
        x.size(1, 1);
        x.size(1, 1);
        x.size(1, 1);
        x.size(1, 1);
        for (int m = 0; m < 5; m++) {
            x.come(0);
        }
        long[] due = {2, 2, 3, 4, 5};
        for (int what = 0; what < 5; what++) {
            int w = what;
            Check.due("19 count " + w, due[w], () -> x.count(w));
        }
        for (int what : new int[] {-1, 5, 6, Integer.MIN_VALUE, Integer.MAX_VALUE}) {
            Check.due("19 count " + what, NONE, () -> x.count(what));
        }
    }

    /** Where a call is wrong in two ways, the exception that the document names first. */
    private static void order() {
        CanteenPlan x = withDays(0, 1);
        for (int m = 1; m < 6; m++) {
            x.meal(0, 0);
        }
        for (int s = 0; s < 4; s++) {
            x.size(1, 1);
        }
        for (int d = 1; d < 150; d++) {
            x.day(0);
        }
        Check.due("2 bits, and there are 6", Check.ARGUMENT, () -> x.meal(256, 0));
        Check.due("4 marks, and there were 150", Check.ARGUMENT, () -> x.day(256));
        Check.due("9 price, and there are 4", Check.ARGUMENT, () -> x.size(1, 0));
        Check.due("3 meal and many", Check.INDEX, () -> x.ate(6, 1001));
        Check.due("7 meal and marks", Check.INDEX, () -> x.split(6, 256, 0));
        Check.due("8 meal and what", Check.INDEX, () -> x.leaf(6, 256, 4));
        Check.due("11 meal and left", Check.INDEX, () -> x.cost(6, 256, -1));
        Check.due("12 meal and left", Check.INDEX, () -> x.pots(6, 256, -1, 0));
        Check.due("11 left, and no days", Check.ARGUMENT, () -> withDays().cost(0, 0, -1));
        Check.due("12 marks, and no days", Check.ARGUMENT, () -> withDays().pots(0, 256, 0, 0));
    }

    private static void refusedCallsChangeNothing() {
        CanteenPlan x = withDays(1, 4, 1, 5, 0, 9, 0, 9);
        x.size(3, 2);
        x.come(4);
        Check.answer(() -> x.meal(256, 0));
        Check.answer(() -> x.day(256));
        Check.answer(() -> taken(x, 4));
        Check.answer(() -> x.size(3, 0));
        Check.answer(() -> x.come(101));
        Check.answer(() -> x.leaf(0, 0, 7));
        long[] due = {1, 4, 4, 1, 1};
        for (int what = 0; what < 5; what++) {
            int w = what;
            Check.due("refused, count " + w, due[w], () -> x.count(w));
        }
        Check.due("refused, leaves", 2, () -> x.leaves(0));
        Check.due("refused, cost", 2 * 6, () -> x.cost(0, 0, 0));
    }
}
