import java.math.BigInteger;
import java.util.ArrayDeque;
import java.util.ArrayList;
import java.util.List;

/**
 * The document once more, word for word and slowly, for OracleTest: fractions with BigInteger, every SET weighed day by
 * day, every way to deal LADLES, every person in the line. It shares no thought with the class but the document.
 */
final class SlowCanteen {
    private record Meal(int in, int barred) {
    }

    private record Day(int marks, int[] eaten) {
    }

    private record Size(int portions, int price) {
    }

    private record Pots(int[] of, long cost, int portions, int pots) {
    }

    private record Fraction(BigInteger top, BigInteger bottom) {
        Fraction plus(Fraction o) {
            return new Fraction(top.multiply(o.bottom).add(o.top.multiply(bottom)), bottom.multiply(o.bottom));
        }

        boolean isLess(Fraction o) {
            return top.multiply(o.bottom).compareTo(o.top.multiply(bottom)) < 0;
        }
    }

    /** A KNOT with its DAYS; mark is -1 for a LEAF. */
    private static final class Knot {
        List<Day> days;
        int mark = -1;
        Knot with;
        Knot without;
    }

    private final List<Meal> meals = new ArrayList<>();
    private final List<Day> days = new ArrayList<>();
    private final List<Size> sizes = new ArrayList<>();
    private final List<Integer> minutes = new ArrayList<>();
    private int[] told = new int[6];
    private int waste = 1;
    private int want = 3;

    private static void argument(boolean good) {
        if (!good) {
            throw new IllegalArgumentException();
        }
    }

    private static void state(boolean good) {
        if (!good) {
            throw new IllegalStateException();
        }
    }

    private static void index(boolean good) {
        if (!good) {
            throw new IndexOutOfBoundsException();
        }
    }

    private static boolean within(int number, int least, int most) {
        return least <= number && number <= most;
    }

    private void isMeal(int meal) {
        index(within(meal, 0, meals.size() - 1));
    }

    int meal(int in, int barred) {
        argument(within(in, 0, 255) && within(barred, 0, 255));
        state(meals.size() < 6);
        meals.add(new Meal(in, barred));
        return meals.size() - 1;
    }

    int ate(int meal, int many) {
        isMeal(meal);
        argument(within(many, 0, 1000));
        int before = told[meal];
        told[meal] = many;
        return before;
    }

    int day(int marks) {
        argument(within(marks, 0, 255));
        state(days.size() < 150);
        days.add(new Day(marks, told));
        told = new int[6];
        return days.size() - 1;
    }

    boolean drop(int day) {
        index(within(day, 0, days.size() - 1));
        return days.set(day, null) != null;
    }

    private static Fraction spread(List<Day> some, int meal) {
        long squares = 0;
        long sum = 0;
        for (Day d : some) {
            squares += (long) d.eaten[meal] * d.eaten[meal];
            sum += d.eaten[meal];
        }
        BigInteger n = BigInteger.valueOf(some.size());
        BigInteger s = BigInteger.valueOf(sum);
        return new Fraction(BigInteger.valueOf(squares).multiply(n).subtract(s.multiply(s)), n);
    }

    private static List<Day> side(List<Day> some, int mark, int has) {
        List<Day> side = new ArrayList<>();
        for (Day d : some) {
            if ((d.marks >> mark & 1) == has) {
                side.add(d);
            }
        }
        return side;
    }

    private static Knot grow(List<Day> some, int meal, List<Integer> way) {
        Knot knot = new Knot();
        knot.days = some;
        Fraction best = null;
        for (int mark = 0; mark < 8 && way.size() < 4; mark++) {
            List<Day> with = side(some, mark, 1);
            List<Day> without = side(some, mark, 0);
            if (way.contains(mark) || with.size() < 2 || without.size() < 2) {
                continue;
            }
            Fraction both = spread(with, meal).plus(spread(without, meal));
            if (both.isLess(spread(some, meal)) && (best == null || both.isLess(best))) {
                best = both;
                knot.mark = mark;
            }
        }
        if (knot.mark >= 0) {
            List<Integer> longer = new ArrayList<>(way);
            longer.add(knot.mark);
            knot.with = grow(side(some, knot.mark, 1), meal, longer);
            knot.without = grow(side(some, knot.mark, 0), meal, longer);
        }
        return knot;
    }

    private Knot tree(int meal) {
        List<Day> there = new ArrayList<>();
        for (Day d : days) {
            if (d != null) {
                there.add(d);
            }
        }
        return grow(there, meal, new ArrayList<>());
    }

    private List<Knot> way(int meal, int marks) {
        List<Knot> way = new ArrayList<>();
        Knot knot = tree(meal);
        way.add(knot);
        while (knot.mark >= 0) {
            knot = (marks >> knot.mark & 1) == 1 ? knot.with : knot.without;
            way.add(knot);
        }
        return way;
    }

    private List<Day> leafDays(int meal, int marks) {
        List<Knot> way = way(meal, marks);
        return way.get(way.size() - 1).days;
    }

    private static int leavesOf(Knot knot) {
        return knot.mark < 0 ? 1 : leavesOf(knot.with) + leavesOf(knot.without);
    }

    int leaves(int meal) {
        isMeal(meal);
        return leavesOf(tree(meal));
    }

    int split(int meal, int marks, int k) {
        isMeal(meal);
        argument(within(marks, 0, 255));
        List<Knot> way = way(meal, marks);
        return within(k, 0, way.size() - 1) ? way.get(k).mark : -1;
    }

    int leaf(int meal, int marks, int what) {
        isMeal(meal);
        argument(within(marks, 0, 255) && within(what, 0, 3));
        int[] eaten = leafDays(meal, marks).stream().mapToInt(d -> d.eaten[meal]).sorted().toArray();
        if (eaten.length == 0) {
            return 0;
        }
        int sum = 0;
        for (int e : eaten) {
            sum += e;
        }
        return new int[] {eaten.length, sum, eaten[0], eaten[eaten.length - 1]}[what];
    }

    int size(int portions, int price) {
        argument(within(portions, 1, 200) && within(price, 1, 10000));
        state(sizes.size() < 4);
        sizes.add(new Size(portions, price));
        return sizes.size() - 1;
    }

    void prices(int newWaste, int newWant) {
        argument(within(newWaste, 0, 1000) && within(newWant, 0, 1000));
        waste = newWaste;
        want = newWant;
    }

    private void allSets(int[] of, int size, int room, List<int[]> found) {
        if (size == sizes.size()) {
            found.add(of.clone());
            return;
        }
        for (int many = 0; many <= room; many++) {
            of[size] = many;
            allSets(of, size + 1, room - many, found);
        }
        of[size] = 0;
    }

    private Pots weigh(int[] of, List<Day> leaf, int meal, int left) {
        int pots = 0;
        int portions = 0;
        long price = 0;
        for (int s = 0; s < sizes.size(); s++) {
            pots += of[s];
            portions += of[s] * sizes.get(s).portions;
            price += (long) of[s] * sizes.get(s).price;
        }
        long cost = 0;
        for (Day d : leaf) {
            int over = portions + left - d.eaten[meal];
            cost += price + (over > 0 ? (long) waste * over : (long) want * -over);
        }
        return new Pots(of, cost, portions, pots);
    }

    private static int compare(Pots a, Pots b) {
        int order = Long.compare(a.cost, b.cost);
        order = order != 0 ? order : Integer.compare(a.portions, b.portions);
        order = order != 0 ? order : Integer.compare(a.pots, b.pots);
        for (int s = 0; s < 4 && order == 0; s++) {
            order = Integer.compare(b.of[s], a.of[s]);
        }
        return order;
    }

    private Pots bestSet(int meal, int marks, int left) {
        isMeal(meal);
        argument(within(marks, 0, 255) && within(left, 0, 10000));
        List<Day> leaf = leafDays(meal, marks);
        if (leaf.isEmpty()) {
            return null;
        }
        List<int[]> sets = new ArrayList<>();
        allSets(new int[4], 0, 12, sets);
        Pots best = null;
        for (int[] of : sets) {
            Pots one = weigh(of, leaf, meal, left);
            if (best == null || compare(one, best) < 0) {
                best = one;
            }
        }
        return best;
    }

    long cost(int meal, int marks, int left) {
        Pots best = bestSet(meal, marks, left);
        return best == null ? -1 : best.cost;
    }

    int pots(int meal, int marks, int left, int size) {
        Pots best = bestSet(meal, marks, left);
        if (best == null) {
            return -1;
        }
        return within(size, 0, sizes.size() - 1) ? best.of[size] : 0;
    }

    private boolean isAllowed(int[] ladle) {
        for (int i = 0; i < meals.size(); i++) {
            for (int j = 0; j < meals.size(); j++) {
                if (i != j && ladle[i] == ladle[j] && (meals.get(i).in & meals.get(j).barred) != 0) {
                    return false;
                }
            }
        }
        return true;
    }

    /** Null if a numbering does not begin with 0 and go up one by one as LADLES are first used. */
    private Integer ladlesUsed(int[] ladle) {
        int used = 0;
        for (int i = 0; i < meals.size(); i++) {
            if (ladle[i] > used) {
                return null;
            }
            used = Math.max(used, ladle[i] + 1);
        }
        return used;
    }

    /** All ways in the order of their numbers read MEAL by MEAL; the first of those with the fewest LADLES. */
    private int[] deal() {
        for (Meal m : meals) {
            if ((m.in & m.barred) != 0) {
                return null;
            }
        }
        int n = meals.size();
        int ways = (int) Math.pow(Math.max(n, 1), n);
        int[] best = null;
        for (int way = 0; way < ways; way++) {
            int[] ladle = new int[n];
            int rest = way;
            for (int i = n - 1; i >= 0; i--) {
                ladle[i] = rest % n;
                rest /= n;
            }
            Integer used = ladlesUsed(ladle);
            if (used != null && isAllowed(ladle) && (best == null || used < ladlesUsed(best))) {
                best = ladle;
            }
        }
        return best;
    }

    int ladles() {
        int[] best = deal();
        return best == null ? -1 : ladlesUsed(best);
    }

    int ladle(int meal) {
        isMeal(meal);
        int[] best = deal();
        return best == null ? -1 : best[meal];
    }

    int come(int many) {
        argument(within(many, 0, 100));
        if (minutes.size() == 60) {
            return -1;
        }
        minutes.add(many);
        return minutes.size();
    }

    int hatch(int serves, int what) {
        argument(within(serves, 1, 100) && within(what, 0, 3));
        ArrayDeque<Integer> line = new ArrayDeque<>();
        int[] facts = {0, 0, -1, 0};
        for (int minute = 0; minute < minutes.size() || !line.isEmpty(); minute++) {
            for (int p = 0; minute < minutes.size() && p < minutes.get(minute); p++) {
                line.addLast(minute);
            }
            for (int p = 0; p < serves && !line.isEmpty(); p++) {
                int wait = minute - line.removeFirst();
                facts[0] = Math.max(facts[0], wait);
                facts[1] += wait;
                facts[2] = minute;
            }
            facts[3] = Math.max(facts[3], line.size());
        }
        return facts[what];
    }

    int serve(int most) {
        argument(most >= 0);
        int serves = 1;
        while (hatch(serves, 0) > most) {
            serves++;
        }
        return serves;
    }

    int empty() {
        int before = minutes.size();
        minutes.clear();
        return before;
    }

    int count(int what) {
        return switch (what) {
            case 0 -> meals.size();
            case 1 -> (int) days.stream().filter(d -> d != null).count();
            case 2 -> days.size();
            case 3 -> sizes.size();
            case 4 -> minutes.size();
            default -> -1;
        };
    }
}
