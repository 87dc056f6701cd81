import java.util.Arrays;

/** A canteen that counts ahead. The words in capitals are those of the document's section "Terms". */
public final class CanteenPlan {
    public static final int NONE = -1;

    private static final int MOST_MEALS = 6;
    private static final int MOST_DAYS = 150;
    private static final int MOST_SIZES = 4;
    private static final int MOST_POTS = 12;
    private static final int MOST_MINUTES = 60;

    private static final int MARKS = 8;
    private static final int MOST_MARKS_ON_A_WAY = 4;
    private static final int LEAST_DAYS_ON_A_SIDE = 2;

    private static final int MOST_BITS = 255;
    private static final int MOST_EATEN = 1000;
    private static final int MOST_PORTIONS = 200;
    private static final int MOST_PRICE = 10000;
    private static final int MOST_FOR_A_PORTION = 1000;
    private static final int MOST_LEFT = 10000;
    private static final int MOST_COMING = 100;
    private static final int MOST_SERVED = 100;

    private final Menu menu;
    private final Diary diary;
    private final Tree tree;
    private final Kitchen kitchen;
    private final Hatch line;

    public CanteenPlan() {
        menu = new Menu();
        diary = new Diary();
        tree = new Tree(diary);
        kitchen = new Kitchen();
        line = new Hatch();
    }

    public int meal(int in, int barred) throws IllegalArgumentException, IllegalStateException {
        needWithin(in, 0, MOST_BITS);
        needWithin(barred, 0, MOST_BITS);
        if (menu.meals >= MOST_MEALS) {
            throw new IllegalStateException("there are 6 meals");
        }
        return menu.add(in, barred);
    }

    public int ate(int meal, int many) throws IndexOutOfBoundsException, IllegalArgumentException {
        needMeal(meal);
        needWithin(many, 0, MOST_EATEN);
        return diary.tell(meal, many);
    }

    public int day(int marks) throws IllegalArgumentException, IllegalStateException {
        needWithin(marks, 0, MOST_BITS);
        if (diary.inAll >= MOST_DAYS) {
            throw new IllegalStateException("there were 150 days");
        }
        return diary.add(marks);
    }

    public boolean drop(int day) throws IndexOutOfBoundsException {
        if (day < 0 || day >= diary.inAll) {
            throw new IndexOutOfBoundsException("there was no such day");
        }
        return diary.takeAway(day);
    }

    public int leaves(int meal) throws IndexOutOfBoundsException {
        needMeal(meal);
        return tree.leavesBelow(meal, 0, 0, 0);
    }

    public int split(int meal, int marks, int k) throws IndexOutOfBoundsException, IllegalArgumentException {
        needMeal(meal);
        needWithin(marks, 0, MOST_BITS);
        return tree.markOnTheWay(meal, marks, k);
    }

    public int leaf(int meal, int marks, int what) throws IndexOutOfBoundsException, IllegalArgumentException {
        needMeal(meal);
        needWithin(marks, 0, MOST_BITS);
        needWithin(what, 0, Diary.FACTS - 1);
        return diary.factOf(meal, tree.askedOnTheWay(meal, marks), marks, what);
    }

    public int size(int portions, int price) throws IllegalArgumentException, IllegalStateException {
        needWithin(portions, 1, MOST_PORTIONS);
        needWithin(price, 1, MOST_PRICE);
        if (kitchen.sizes >= MOST_SIZES) {
            throw new IllegalStateException("there are 4 sizes");
        }
        return kitchen.add(portions, price);
    }

    public void prices(int waste, int want) throws IllegalArgumentException {
        needWithin(waste, 0, MOST_FOR_A_PORTION);
        needWithin(want, 0, MOST_FOR_A_PORTION);
        kitchen.waste = waste;
        kitchen.want = want;
    }

    public long cost(int meal, int marks, int left) throws IndexOutOfBoundsException, IllegalArgumentException {
        return findBestSet(meal, marks, left) ? kitchen.bestCost : NONE;
    }

    public int pots(int meal, int marks, int left, int size)
            throws IndexOutOfBoundsException, IllegalArgumentException {
        return findBestSet(meal, marks, left) ? kitchen.bestPotsOf(size) : NONE;
    }

    public int ladles() {
        return menu.deal();
    }

    public int ladle(int meal) throws IndexOutOfBoundsException {
        needMeal(meal);
        return menu.deal() == NONE ? NONE : menu.ladleOf[meal];
    }

    public int come(int many) throws IllegalArgumentException {
        needWithin(many, 0, MOST_COMING);
        return line.minutes >= MOST_MINUTES ? NONE : line.add(many);
    }

    public int hatch(int serves, int what) throws IllegalArgumentException {
        needWithin(serves, 1, MOST_SERVED);
        needWithin(what, 0, Hatch.FACTS - 1);
        return line.factOf(serves, what);
    }

    public int serve(int minutes) throws IllegalArgumentException {
        if (minutes < 0) {
            throw new IllegalArgumentException("minutes are below 0");
        }
        return line.leastServed(minutes);
    }

    public int empty() {
        return line.clear();
    }

    public int count(int what) {
        switch (what) {
            case 0:
                return menu.meals;
            case 1:
                return diary.inAll - diary.away;
            case 2:
                return diary.inAll;
            case 3:
                return kitchen.sizes;
            case 4:
                return line.minutes;
            default:
                return NONE;
        }
    }

    private static void needWithin(int number, int least, int most) {
        if (number < least || number > most) {
            throw new IllegalArgumentException("a number is beyond what the document allows");
        }
    }

    private void needMeal(int meal) {
        if (meal < 0 || meal >= menu.meals) {
            throw new IndexOutOfBoundsException("there is no such meal");
        }
    }

    /** False if the LEAF has no DAYS, so that there is no BEST SET. */
    private boolean findBestSet(int meal, int marks, int left) {
        needMeal(meal);
        needWithin(marks, 0, MOST_BITS);
        needWithin(left, 0, MOST_LEFT);
        kitchen.readLeaf(diary, meal, tree.askedOnTheWay(meal, marks), marks);
        if (kitchen.days == 0) {
            return false;
        }
        kitchen.findBest(left);
        return true;
    }

    /** The MEALS and their LADLES. */
    private static final class Menu {
        private final int[] in = new int[MOST_MEALS];
        private final int[] barred = new int[MOST_MEALS];
        private final int[] ladleOf = new int[MOST_MEALS];
        private int meals;

        private int add(int things, int bars) {
            in[meals] = things;
            barred[meals] = bars;
            meals++;
            return meals - 1;
        }

        /** How many LADLES, with ladleOf filled for all MEALS; NONE if a MEAL bars what is in itself. */
        private int deal() {
            for (int meal = 0; meal < meals; meal++) {
                if (!canMeet(meal, meal)) {
                    return NONE;
                }
            }
            for (int most = 0; most <= meals; most++) {
                if (dealFrom(0, 0, most)) {
                    return most;
                }
            }
            return NONE;
        }

        /** Tries the least LADLE first, MEAL by MEAL, so the first way that is found is the first of all. */
        private boolean dealFrom(int meal, int used, int most) {
            if (meal >= meals) {
                return true;
            }
            for (int ladle = 0; ladle <= used && ladle < most; ladle++) {
                if (canTake(meal, ladle)) {
                    ladleOf[meal] = ladle;
                    if (dealFrom(meal + 1, Math.max(used, ladle + 1), most)) {
                        return true;
                    }
                }
            }
            return false;
        }

        private boolean canTake(int meal, int ladle) {
            for (int other = 0; other < meal; other++) {
                if (ladleOf[other] == ladle && !canMeet(meal, other)) {
                    return false;
                }
            }
            return true;
        }

        private boolean canMeet(int one, int other) {
            return (in[one] & barred[other]) == 0 && (in[other] & barred[one]) == 0;
        }
    }

    /**
     * The DAYS. A KNOT needs no list of its DAYS: it is told by the MARKS that were asked for on the way to it (a mask)
     * and by MARKS that lead to it.
     */
    private static final class Diary {
        private static final int FACTS = 4;
        private static final int DAYS = 0;
        private static final int SUM = 1;
        private static final int LEAST = 2;
        private static final int GREATEST = 3;

        private final int[] told = new int[MOST_MEALS];
        private final int[] marksOf = new int[MOST_DAYS];
        private final boolean[] isAway = new boolean[MOST_DAYS];
        private final int[] eaten = new int[MOST_DAYS * MOST_MEALS];
        private final int[] facts = new int[FACTS];
        private int inAll;
        private int away;

        private int tell(int meal, int many) {
            int before = told[meal];
            told[meal] = many;
            return before;
        }

        private int add(int marks) {
            marksOf[inAll] = marks;
            for (int meal = 0; meal < MOST_MEALS; meal++) {
                eaten[inAll * MOST_MEALS + meal] = told[meal];
                told[meal] = 0;
            }
            inAll++;
            return inAll - 1;
        }

        private boolean takeAway(int day) {
            if (isAway[day]) {
                return false;
            }
            isAway[day] = true;
            away++;
            return true;
        }

        private boolean isInKnot(int day, int asked, int marks) {
            return !isAway[day] && ((marksOf[day] ^ marks) & asked) == 0;
        }

        private int eatenOn(int day, int meal) {
            return eaten[day * MOST_MEALS + meal];
        }

        private int factOf(int meal, int asked, int marks, int what) {
            Arrays.fill(facts, 0);
            for (int day = 0; day < inAll; day++) {
                if (isInKnot(day, asked, marks)) {
                    noteFacts(eatenOn(day, meal));
                }
            }
            return facts[what];
        }

        private void noteFacts(int many) {
            boolean first = facts[DAYS] == 0;
            facts[DAYS]++;
            facts[SUM] += many;
            facts[LEAST] = first ? many : Math.min(facts[LEAST], many);
            facts[GREATEST] = Math.max(facts[GREATEST], many);
        }
    }

    /** The TREE of a MEAL, found anew in each call: a DAY more or less may change all of it. */
    private static final class Tree {
        private final Diary diary;
        private final int[] daysWith = new int[MARKS];
        private final int[] sumWith = new int[MARKS];
        private int days;
        private int sum;

        private Tree(Diary diary) {
            this.diary = diary;
        }

        private int leavesBelow(int meal, int asked, int marks, int depth) {
            int mark = depth < MOST_MARKS_ON_A_WAY ? markThatParts(meal, asked, marks) : NONE;
            if (mark == NONE) {
                return 1;
            }
            int bit = 1 << mark;
            return leavesBelow(meal, asked | bit, marks, depth + 1)
                    + leavesBelow(meal, asked | bit, marks | bit, depth + 1);
        }

        private int markOnTheWay(int meal, int marks, int k) {
            if (k < 0 || k >= MOST_MARKS_ON_A_WAY) {
                return NONE;
            }
            int asked = 0;
            for (int knot = 0; knot < k; knot++) {
                int mark = markThatParts(meal, asked, marks);
                if (mark == NONE) {
                    return NONE;
                }
                asked |= 1 << mark;
            }
            return markThatParts(meal, asked, marks);
        }

        /** The mask of all MARKS that are asked for on the way to the LEAF. */
        private int askedOnTheWay(int meal, int marks) {
            int asked = 0;
            for (int knot = 0; knot < MOST_MARKS_ON_A_WAY; knot++) {
                int mark = markThatParts(meal, asked, marks);
                if (mark == NONE) {
                    return asked;
                }
                asked |= 1 << mark;
            }
            return asked;
        }

        /**
         * With n and s for the DAYS and the sum of one side, m and t for those of the other, the SPREADS of both sides
         * together are less than the KNOT's own by (s * m - t * n)^2 / (n * m * (n + m)). n + m is the same for all
         * MARKS, so gain / parts without it tells the best, and multiplied out it stays whole and below 2^63.
         */
        private int markThatParts(int meal, int asked, int marks) {
            readKnot(meal, asked, marks);
            int best = NONE;
            long bestGain = 0;
            long bestParts = 1;
            for (int mark = 0; mark < MARKS; mark++) {
                int daysWithout = days - daysWith[mark];
                boolean isAsked = (asked >> mark & 1) != 0;
                if (!isAsked && Math.min(daysWith[mark], daysWithout) >= LEAST_DAYS_ON_A_SIDE) {
                    long across = (long) sumWith[mark] * daysWithout - (long) (sum - sumWith[mark]) * daysWith[mark];
                    long gain = across * across;
                    long parts = (long) daysWith[mark] * daysWithout;
                    if (gain * bestParts > bestGain * parts) {
                        best = mark;
                        bestGain = gain;
                        bestParts = parts;
                    }
                }
            }
            return best;
        }

        private void readKnot(int meal, int asked, int marks) {
            days = 0;
            sum = 0;
            Arrays.fill(daysWith, 0);
            Arrays.fill(sumWith, 0);
            for (int day = 0; day < diary.inAll; day++) {
                if (diary.isInKnot(day, asked, marks)) {
                    readDay(diary.marksOf[day], diary.eatenOn(day, meal));
                }
            }
        }

        private void readDay(int marks, int many) {
            days++;
            sum += many;
            for (int mark = 0; mark < MARKS; mark++) {
                if ((marks >> mark & 1) != 0) {
                    daysWith[mark]++;
                    sumWith[mark] += many;
                }
            }
        }
    }

    /** The SIZES, and the BEST SET of pots. */
    private static final class Kitchen {
        private final int[] portions = new int[MOST_SIZES];
        private final int[] price = new int[MOST_SIZES];
        private int sizes;
        private int waste = 1;
        private int want = 3;

        // Of the DAYS on which so many or fewer ate: how many they are, and their sum. A SET is weighed by one look here.
        private final int[] daysUpTo = new int[MOST_EATEN + 1];
        private final int[] sumUpTo = new int[MOST_EATEN + 1];
        private int days;
        private int sum;

        private final int[] tried = new int[MOST_SIZES];
        private final int[] best = new int[MOST_SIZES];
        private boolean hasBest;
        private long bestCost;
        private int bestPortions;
        private int bestPots;

        private int add(int portionsOfOne, int priceOfOne) {
            portions[sizes] = portionsOfOne;
            price[sizes] = priceOfOne;
            sizes++;
            return sizes - 1;
        }

        private int bestPotsOf(int size) {
            return size < 0 || size >= sizes ? 0 : best[size];
        }

        private void readLeaf(Diary diary, int meal, int asked, int marks) {
            Arrays.fill(daysUpTo, 0);
            for (int day = 0; day < diary.inAll; day++) {
                if (diary.isInKnot(day, asked, marks)) {
                    daysUpTo[diary.eatenOn(day, meal)]++;
                }
            }
            days = 0;
            sum = 0;
            for (int many = 0; many <= MOST_EATEN; many++) {
                days += daysUpTo[many];
                sum += daysUpTo[many] * many;
                daysUpTo[many] = days;
                sumUpTo[many] = sum;
            }
        }

        /** Goes from the most of SIZE 0, then of SIZE 1, and so on: among equals the first that is met stays. */
        private void findBest(int left) {
            hasBest = false;
            for (int a = mostPots(0, MOST_POTS); a >= 0; a--) {
                tried[0] = a;
                for (int b = mostPots(1, MOST_POTS - a); b >= 0; b--) {
                    tried[1] = b;
                    for (int c = mostPots(2, MOST_POTS - a - b); c >= 0; c--) {
                        tried[2] = c;
                        for (int d = mostPots(3, MOST_POTS - a - b - c); d >= 0; d--) {
                            tried[3] = d;
                            weighTried(left);
                        }
                    }
                }
            }
        }

        private int mostPots(int size, int room) {
            return size < sizes ? room : 0;
        }

        private void weighTried(int left) {
            int pots = 0;
            int cooked = 0;
            long paid = 0;
            for (int size = 0; size < sizes; size++) {
                pots += tried[size];
                cooked += tried[size] * portions[size];
                paid += (long) tried[size] * price[size];
            }
            long costOfTried = paid * days + wasteAndWant(cooked + left);
            if (!hasBest || isBetter(costOfTried, cooked, pots)) {
                hasBest = true;
                bestCost = costOfTried;
                bestPortions = cooked;
                bestPots = pots;
                System.arraycopy(tried, 0, best, 0, MOST_SIZES);
            }
        }

        private boolean isBetter(long costOfTried, int cooked, int pots) {
            if (costOfTried != bestCost) {
                return costOfTried < bestCost;
            }
            return cooked != bestPortions ? cooked < bestPortions : pots < bestPots;
        }

        private long wasteAndWant(int all) {
            int look = Math.min(all, MOST_EATEN);
            long tooMany = (long) all * daysUpTo[look] - sumUpTo[look];
            long lacking = (long) (sum - sumUpTo[look]) - (long) all * (days - daysUpTo[look]);
            return waste * tooMany + want * lacking;
        }
    }

    /** The line at the HATCH. */
    private static final class Hatch {
        private static final int FACTS = 4;
        private static final int GREATEST_WAIT = 0;
        private static final int SUM_OF_WAITS = 1;
        private static final int LAST_MINUTE = 2;
        private static final int LONGEST_LINE = 3;

        private final int[] coming = new int[MOST_MINUTES];
        private final int[] facts = new int[FACTS];
        private int minutes;

        private int add(int many) {
            coming[minutes] = many;
            minutes++;
            return minutes;
        }

        private int clear() {
            int before = minutes;
            minutes = 0;
            return before;
        }

        private int leastServed(int mostWait) {
            for (int serves = 1; serves < MOST_SERVED; serves++) {
                if (factOf(serves, GREATEST_WAIT) <= mostWait) {
                    return serves;
                }
            }
            // No more than this come in one minute, so nobody waits.
            return MOST_SERVED;
        }

        /** Minutes behind the last in which some came need no look: the line only gets shorter in them. */
        private int factOf(int serves, int what) {
            Arrays.fill(facts, 0);
            facts[LAST_MINUTE] = NONE;
            int inLine = 0;
            for (int minute = 0; minute < minutes; minute++) {
                if (coming[minute] > 0) {
                    noteWaits(minute, inLine, serves);
                }
                inLine = Math.max(inLine + coming[minute] - serves, 0);
                facts[LONGEST_LINE] = Math.max(facts[LONGEST_LINE], inLine);
            }
            return facts[what];
        }

        private void noteWaits(int minute, int before, int serves) {
            int behind = before + coming[minute];
            int lastWait = serves > 0 ? (behind - 1) / serves : 0;
            facts[GREATEST_WAIT] = Math.max(facts[GREATEST_WAIT], lastWait);
            facts[SUM_OF_WAITS] += waitsOfFirst(behind, serves) - waitsOfFirst(before, serves);
            facts[LAST_MINUTE] = minute + lastWait;
        }

        /** The sum over the first so many in a line: who has p before him in it waits p / serves minutes. */
        private static int waitsOfFirst(int many, int serves) {
            int full = serves > 0 ? many / serves : 0;
            int rest = many - full * serves;
            return serves * (full * (full - 1) / 2) + rest * full;
        }
    }
}
