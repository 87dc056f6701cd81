/**
 * Promises 1 to 8 and their terms: each sentence that names a boundary has a run of its own, at the last value that is
 * allowed and at the first that is not. The sentence stands in the run's name. What refused calls leave as it was is
 * asked for all calls in RefusedTest.
 */
public final class BoundaryDaysTest {
    private static final String SIX_MEALS = "6 x meal 0 0;";

    public static void main(String[] args) {
        newObject();
        twoObjects();
        mealBits();
        mealsFull();
        ateBounds();
        ateTold();
        dayMarks();
        daysFull();
        laterMeals();
        drop();
        daysOnEachSide();
        marksOnTheWay();
        spreadsLess();
        leastMark();
        eachMark();
        leaves();
        split();
        leaf();
        Check.end();
    }

    private static void newObject() {
        for (int what = 0; what <= 4; what++) {
            Run.of("1 no meals, days, sizes, minutes: count", "count " + what + " = 0");
        }
        Run.of("1 no meals", "ladles = 0; ladle 0 = INDEX; leaves 0 = INDEX; ate 0 0 = INDEX; meal 0 0 = 0");
        Run.of("1 no days", "drop 0 = INDEX; meal 0 0; leaf 0 0 0 = 0; cost 0 0 0 = NONE; day 0 = 0");
        Run.of("1 no sizes", "meal 0 0; days 0:9; pots 0 0 0 0 = 0; cost 0 0 0 = 27; size 9 1 = 0");
        Run.of("1 nobody comes", "empty = 0; hatch 1 2 = NONE; serve 0 = 1; come 0 = 1");
        // A static row would show in the object that is made behind a full one.
        Run.of("1 behind a full object: the full one", States.FULL);
        Run.of("1 behind a full object: a new one", States.NEW_STAYS);
    }

    private static void twoObjects() {
        String some = States.SOME + States.SOME_STAYS;
        String full = States.FULL + States.FULL_STAYS;
        String emptyAgain = States.EMPTY_AGAIN + States.EMPTY_AGAIN_STAYS;
        Run.byTurns("1 an object beside another: some, full", some, full);
        Run.byTurns("1 an object beside another: full, some", full, some);
        Run.byTurns("1 an object beside another: empty again, full", emptyAgain, full);
        Run.byTurns("1 an object beside another: new, some", States.NEW + States.NEW_STAYS, some);
        Run.byTurns("1 an object beside another: two that are alike", some, some);
        Run.byTurns("1 an object beside another: other things in the meals",
                "meal 1 2\n meal 2 1\n ladles = 2\n ladle 1 = 1", "meal 4 2\n meal 8 1\n ladles = 1\n ladle 1 = 0");
    }

    private static void mealBits() {
        Run.of("2 bits 0 to 255: in 0", "meal 0 1 = 0");
        Run.of("2 bits 0 to 255: in 255", "meal 255 0 = 0");
        Run.of("2 bits 0 to 255: barred 0", "meal 1 0 = 0");
        Run.of("2 bits 0 to 255: barred 255", "meal 0 255 = 0");
        Run.of("2 bits 0 to 255: both 255", "meal 255 255 = 0");
        Run.of("2 bits are not 0 to 255: in -1", "meal -1 0 = ARGUMENT; count 0 = 0; meal 0 0 = 0");
        Run.of("2 bits are not 0 to 255: in 256", "meal 256 0 = ARGUMENT; count 0 = 0; meal 0 0 = 0");
        Run.of("2 bits are not 0 to 255: barred -1", "meal 0 -1 = ARGUMENT; count 0 = 0; meal 0 0 = 0");
        Run.of("2 bits are not 0 to 255: barred 256", "meal 0 256 = ARGUMENT; count 0 = 0; meal 0 0 = 0");
        Run.of("2 bits are not 0 to 255: far out", """
            meal MIN 0 = ARGUMENT
            meal MAX 0 = ARGUMENT
            meal 0 MIN = ARGUMENT
            meal 0 MAX = ARGUMENT
            meal 65536 0 = ARGUMENT
            meal 0 -256 = ARGUMENT
            count 0 = 0
            """);
        Run.of("2 a refused meal takes no number", "meal 0 0 = 0; meal 0 256 = ARGUMENT; meal 0 0 = 1");
    }

    private static void mealsFull() {
        Run.of("2 there are 6: the sixth goes, the seventh not", """
            5 x meal 0 0
            count 0 = 5
            ladle 5 = INDEX
            meal 4 8 = 5
            count 0 = 6
            ladle 5 = 0
            meal 0 0 = STATE
            meal 255 255 = STATE
            count 0 = 6
            ladle 5 = 0
            ladle 6 = INDEX
            ladles = 1
            ate 5 7 = 0
            ate 5 8 = 7
            ate 6 7 = INDEX
            day 0 = 0
            leaf 5 0 1 = 8
            """);
        Run.of("2 there are 6: refused calls before do not count", """
            6 x meal 256 0 = ARGUMENT
            meal 0 0 = 0
            4 x meal 0 0
            meal 0 0 = 5
            meal 0 0 = STATE
            meal 256 0 = ARGUMENT   # named first
            """);
    }

    private static void ateBounds() {
        String oneMeal = "meal 0 0;";
        Run.of("3 it is 0 to 1,000: 0", oneMeal, "ate 0 0 = 0; day 0; leaf 0 0 1 = 0");
        Run.of("3 it is 0 to 1,000: 1000", oneMeal, "ate 0 1000 = 0; day 0; leaf 0 0 1 = 1000");
        Run.of("3 it is not 0 to 1,000: -1", oneMeal, "ate 0 7; ate 0 -1 = ARGUMENT; day 0; leaf 0 0 1 = 7");
        Run.of("3 it is not 0 to 1,000: 1001", oneMeal, "ate 0 7; ate 0 1001 = ARGUMENT; day 0; leaf 0 0 1 = 7");
        Run.of("3 it is not 0 to 1,000: far out", oneMeal, "ate 0 MIN = ARGUMENT; ate 0 MAX = ARGUMENT; ate 0 1 = 0");
        Run.of("3 no such meal: none at all", "ate 0 0 = INDEX; ate -1 0 = INDEX; meal 0 0 = 0; ate 0 0 = 0");
        Run.of("3 no such meal: behind the only one", oneMeal, "ate 0 5 = 0; ate 1 5 = INDEX; ate 0 6 = 5");
        Run.of("3 no such meal: before the first", oneMeal, "ate 0 5 = 0; ate -1 5 = INDEX; ate 0 6 = 5");
        Run.of("3 no such meal: behind the sixth", SIX_MEALS, "ate 5 5 = 0; ate 6 5 = INDEX; ate 5 6 = 5");
        Run.of("3 no such meal: far out", SIX_MEALS, "ate MIN 5 = INDEX; ate MAX 5 = INDEX; ate 715827882 5 = INDEX");
        Run.of("3 a meal comes to be while some is told", """
            meal 0 0
            ate 0 5 = 0
            ate 1 6 = INDEX
            meal 0 0 = 1
            ate 1 7 = 0
            ate 0 8 = 5
            day 0
            leaf 0 0 1 = 8
            leaf 1 0 1 = 7
            """);
    }

    private static void ateTold() {
        Run.of("3 what was told so far: 0 at first, of each meal", SIX_MEALS, """
            ate 0 10 = 0
            ate 1 11 = 0
            ate 2 12 = 0
            ate 3 13 = 0
            ate 4 14 = 0
            ate 5 15 = 0
            ate 0 0 = 10
            ate 5 0 = 15
            """);
        Run.of("3 the last that was told counts, not the sum", """
            meal 0 0
            ate 0 1000 = 0
            ate 0 1000 = 1000
            ate 0 3 = 1000
            day 0
            leaf 0 0 1 = 3
            leaf 0 0 3 = 3
            """);
        Run.of("3 0 behind each day, of each meal", SIX_MEALS, """
            ate 0 9
            ate 5 9
            day 0
            ate 0 0 = 0
            ate 5 0 = 0
            day 0
            ate 0 4 = 0
            day 0
            day 0
            leaf 0 0 1 = 13
            leaf 5 0 1 = 9
            leaf 5 0 0 = 4
            """);
        Run.of("3 what was told stays behind a refused day", """
            meal 0 0
            ate 0 9
            day -1 = ARGUMENT
            day 256 = ARGUMENT
            ate 0 8 = 9
            day 0 = 0
            leaf 0 0 1 = 8
            """);
        Run.of("3 what was told stays behind drop", "meal 0 0; days 0:1; ate 0 9; drop 0 = true; ate 0 8 = 9");
    }

    private static void dayMarks() {
        Run.of("4 marks 0 to 255: 0", "day 0 = 0; count 2 = 1");
        Run.of("4 marks 0 to 255: 255", "day 255 = 0; count 2 = 1");
        Run.of("4 marks are not 0 to 255: -1", "day -1 = ARGUMENT; count 1 = 0; count 2 = 0; day 0 = 0");
        Run.of("4 marks are not 0 to 255: 256", "day 256 = ARGUMENT; count 1 = 0; count 2 = 0; day 0 = 0");
        Run.of("4 marks are not 0 to 255: far out", "day MIN = ARGUMENT; day MAX = ARGUMENT; day -256 = ARGUMENT");
        Run.of("4 a refused day takes no number", "day 0 = 0; day 256 = ARGUMENT; day 0 = 1");
    }

    private static void daysFull() {
        Run.of("4 there were 150: the last goes, the next not", """
            meal 0 0
            149 x day 0
            count 2 = 149
            drop 149 = INDEX
            ate 0 1000
            day 0 = 149
            count 1 = 150
            count 2 = 150
            ate 0 55 = 0
            day 0 = STATE
            day 255 = STATE
            day 256 = ARGUMENT      # named first
            count 1 = 150
            count 2 = 150
            ate 0 56 = 55           # a refused day leaves what was told
            leaf 0 0 0 = 150
            leaf 0 0 1 = 1000
            drop 150 = INDEX
            drop 149 = true
            """);
        Run.of("4 there were 150: days that were taken away count", """
            meal 0 0
            drop 0 = INDEX
            day 0 = 0
            drop 0 = true
            148 x day 0
            count 1 = 148
            day 0 = 149
            count 1 = 149
            day 0 = STATE
            drop 149 = true
            day 0 = STATE
            count 1 = 148
            count 2 = 150
            leaf 0 0 0 = 148
            """);
        StringBuilder all = new StringBuilder("meal 0 0; 150 x day 0;");
        for (int day = 0; day < 150; day++) {
            all.append("drop " + day + " = true;");
        }
        Run.of("4 there were 150: all taken away", all.toString(), """
            count 1 = 0
            count 2 = 150
            day 0 = STATE
            drop 0 = false
            drop 149 = false
            drop 150 = INDEX
            leaf 0 0 0 = 0
            leaves 0 = 1
            cost 0 0 0 = NONE
            """);
    }

    private static void laterMeals() {
        Run.of("4 of each meal that there is then; 0 of later ones", """
            day 0 = 0
            meal 0 0
            ate 0 6
            day 0 = 1
            5 x meal 0 0
            ate 5 8
            day 0 = 2
            leaf 0 0 0 = 3
            leaf 0 0 1 = 6
            leaf 5 0 0 = 3
            leaf 5 0 1 = 8
            leaf 5 0 2 = 0
            leaf 1 0 3 = 0
            """);
    }

    private static void drop() {
        Run.of("5 there was none such: no days at all", "drop 0 = INDEX; drop -1 = INDEX; day 0 = 0; drop 0 = true");
        Run.of("5 there was none such: before the first", "3 x day 0; drop -1 = INDEX; count 1 = 3; drop 0 = true");
        Run.of("5 there was none such: behind the last", "3 x day 0; drop 3 = INDEX; count 1 = 3; drop 2 = true");
        Run.of("5 there was none such: far out", "3 x day 0; drop MIN = INDEX; drop MAX = INDEX; drop 256 = INDEX");
        Run.of("5 it was: false, and nothing more is taken", """
            3 x day 0
            drop 1 = true
            drop 1 = false
            drop 1 = false
            count 1 = 2
            count 2 = 3
            drop 0 = true
            drop 2 = true
            count 1 = 0
            drop 0 = false
            drop 2 = false
            drop 3 = INDEX
            count 1 = 0
            count 2 = 3
            """);
        Run.of("5 its number is not given again", """
            2 x day 0
            drop 1 = true
            day 0 = 2
            drop 1 = false
            drop 2 = true
            drop 0 = true
            day 0 = 3
            drop 0 = false
            drop 3 = true
            """);
    }

    private static void daysOnEachSide() {
        String meal = "meal 0 0;";
        Run.of("6 at least 2 days on each side: 2 and 2", meal, "days 2*1:5 2*0:6; leaves 0 = 2; split 0 0 0 = 0");
        Run.of("6 at least 2 days on each side: 1 with", meal, "days 1:5 9*0:6; leaves 0 = 1; split 0 0 0 = NONE");
        Run.of("6 at least 2 days on each side: 1 without", meal, "days 9*1:5 0:6; leaves 0 = 1; split 0 0 0 = NONE");
        Run.of("6 at least 2 days on each side: 2 with", meal, "days 2*1:5 9*0:6; leaves 0 = 2");
        Run.of("6 at least 2 days on each side: 2 without", meal, "days 9*1:5 2*0:6; leaves 0 = 2");
        Run.of("6 at least 2 days on each side: none with", meal, "days 2*0:5 2*0:6; leaves 0 = 1");
        Run.of("6 at least 2 days on each side: none without", meal, "days 2*1:5 2*1:6; leaves 0 = 1");
        Run.of("6 at least 2 days on each side: 3 days", meal, "days 2*1:5 0:6; leaves 0 = 1");
        Run.of("6 at least 2 days on each side: the better mark has 1", meal, """
            days 1:1000 2:0 2*2:10 2*0:9
            split 0 0 0 = 1
            leaves 0 = 2
            """);
        Run.of("6 at least 2 days on each side: of a knot below", meal, """
            days 2*1:100 2*3:110 2*0:0 2:9
            leaves 0 = 3
            split 0 0 0 = 0
            split 0 3 1 = 1
            split 0 2 1 = NONE      # 2 days and 1
            leaf 0 2 0 = 3
            days 2:9
            leaves 0 = 4
            split 0 2 1 = 1         # 2 days and 2
            leaf 0 2 0 = 2
            drop 6 = true
            leaves 0 = 3
            split 0 2 1 = NONE
            """);
        Run.of("6 at least 2 days on each side: days taken away do not count", meal, """
            days 2*1:5 2*0:6
            leaves 0 = 2
            drop 0 = true
            leaves 0 = 1
            days 1:5
            leaves 0 = 2
            drop 2 = true
            leaves 0 = 1
            drop 3 = true
            leaves 0 = 1
            leaf 0 0 0 = 2
            """);
    }

    private static void marksOnTheWay() {
        Run.of("6 fewer than 4 were: the fourth parts, the fifth not", States.FIVE_MARKS, """
            leaves 0 = 16
            split 0 31 0 = 0
            split 0 31 3 = 3
            split 0 31 4 = NONE
            split 0 0 3 = 3
            split 0 0 4 = NONE
            leaf 0 31 0 = 4
            leaf 0 31 2 = 30
            leaf 0 31 3 = 31
            """);
        Run.of("6 fewer than 4 were: with three marks no leaf is short of days", """
            meal 0 0
            days 4*0:0 4*1:4 4*2:2 4*3:6 4*4:1 4*5:5 4*6:3 4*7:7
            leaves 0 = 8
            split 0 7 2 = 2
            split 0 7 3 = NONE
            leaf 0 7 0 = 4
            """);
        // Four marks on each way, but seven in the tree: 1, 2, 3 behind mark 0, and 4, 5, 6 where it lacks.
        StringBuilder days = new StringBuilder("meal 0 0;");
        for (int day = 0; day < 64; day++) {
            boolean has = (day & 1) != 0;
            int three = day >> 1 & 7;
            int last = day >> 4 & 1;
            int marks = (has ? 1 | three << 1 : three << 4) | last << 7;
            int many = (has ? 500 : 0) + 200 * (three & 1) + 50 * (three >> 1 & 1) + 10 * (three >> 2) + last;
            days.append("days ").append(marks).append(':').append(many).append(';');
        }
        Run.of("6 fewer than 4 were, and not by the same: on the way, not in the tree", days.toString(), """
            leaves 0 = 16
            split 0 1 0 = 0
            split 0 1 1 = 1
            split 0 1 2 = 2
            split 0 1 3 = 3
            split 0 1 4 = NONE
            split 0 0 1 = 4
            split 0 0 2 = 5
            split 0 0 3 = 6
            split 0 0 4 = NONE
            leaf 0 255 0 = 4
            leaf 0 255 2 = 760
            leaf 0 255 3 = 761
            leaf 0 126 2 = 260
            """);
        Run.of("6 it was not parted by on the way here: but by the marks beside it", """
            meal 0 0
            days 2*0:0 2*1:1 2*2:10 2*3:11 2*4:100 2*5:101 2*6:110 2*7:111
            leaves 0 = 8
            split 0 7 0 = 2
            split 0 7 1 = 1
            split 0 7 2 = 0
            split 0 0 2 = 0
            split 0 7 3 = NONE
            leaf 0 7 0 = 2
            leaf 0 6 1 = 220
            """);
        Run.of("6 it was not parted by on the way here: from mark 7 down to mark 4, not 3", """
            meal 0 0
            days 4*0:0 4*248:800 4*128:400 4*192:600 4*224:700 4*240:760
            split 0 255 0 = 7
            split 0 255 1 = 6
            split 0 255 2 = 5
            split 0 255 3 = 4
            split 0 255 4 = NONE
            leaves 0 = 5
            """);
        Run.of("6 it was not parted by on the way here", "meal 0 0; days 4*1:5 4*1:6 4*0:8 4*0:9; leaves 0 = 2; "
                + "split 0 1 0 = 0; split 0 1 1 = NONE; split 0 0 1 = NONE");
    }

    private static void spreadsLess() {
        String meal = "meal 0 0;";
        Run.of("6 less than its own: all ate alike", meal, "days 2*1:7 2*0:7; leaves 0 = 1");
        Run.of("6 less than its own: nobody ate", meal, "days 2*1:0 2*0:0; leaves 0 = 1");
        Run.of("6 less than its own: equal", meal, "days 1:5 1:7 2*0:6; leaves 0 = 1");
        Run.of("6 less than its own: just less", meal, "days 1:5 1:8 2*0:6; leaves 0 = 2");
        Run.of("6 less than its own: just less on the other side", meal, "days 1:5 1:7 0:6 0:7; leaves 0 = 2");
        Run.of("6 less than its own: equal, a third each", meal, "days 2*1:2 1:1 4*0:2 2*0:1; leaves 0 = 1");
        Run.of("6 less than its own: equal, two fifths each", meal, "days 2*1:1 3*1:0 4*0:1 6*0:0; leaves 0 = 1");
        Run.of("6 less than its own: equal, at the most days and eaters", meal,
                "days 50*1:1000 25*1:999 50*0:1000 25*0:999; leaves 0 = 1");
        // 148 * 55997 - 147992 * 56 = 4 is all that parts the sides' means
        Run.of("6 less than its own: a little, at nearly the most days and eaters", meal,
                "days 53*1:1000 3*1:999 87*0:1000 5*0:999; leaves 0 = 2");
    }

    private static void leastMark() {
        String meal = "meal 0 0;";
        Run.of("6 of these the least mark: all eight alike", meal, "days 2*255:1 2*0:9; split 0 0 0 = 0; leaves 0 = 2");
        Run.of("6 of these the least mark: 6 and 7", meal, "days 2*192:1 2*0:9; split 0 0 0 = 6");
        Run.of("6 of these the least mark: one lacks where the other is", meal, "days 2*64:1 2*128:9; split 0 0 0 = 6");
        // 10 days: (2 * 10 - 6 * 2)^2 / (2 * 8) = 4 = (4 * 10 - 6 * 5)^2 / (5 * 5), but not so in doubles
        Run.of("6 of these the least mark: sides of 2 and 8, of 5 and 5", meal,
                "days 2*1:1 4*2:1 2:0 3*0:0; split 0 0 0 = 0; split 0 0 1 = 1");
        Run.of("6 of these the least mark: sides of 5 and 5, of 2 and 8", meal,
                "days 2*2:1 4*1:1 1:0 3*0:0; split 0 0 0 = 0");
        // gains of 16 / (56 * 92) and of 16 / (55 * 93), by 148 each: the second is greater by little
        Run.of("6 by that one of which they are least together: the greater mark", meal,
                "days 53*1:1000 3*1:999 52*2:1000 3*2:999 35*0:1000 2*0:999; split 0 0 0 = 1");
        Run.of("6 by that one of which they are least together: the least mark", meal,
                "days 53*2:1000 3*2:999 52*1:1000 3*1:999 35*0:1000 2*0:999; split 0 0 0 = 0");
    }

    private static void eachMark() {
        for (int mark = 0; mark < 8; mark++) {
            int bit = 1 << mark;
            Run.of("4 marks are bits 0 to 7: " + mark, """
                meal 0 0; days 2*BIT:3 2*0:8
                split 0 0 0 = MARK; split 0 255 0 = MARK
                leaf 0 BIT 1 = 6; leaf 0 255 1 = 6
                leaf 0 OTHERS 1 = 16; leaf 0 0 1 = 16
                """.replace("MARK", "" + mark).replace("BIT", "" + bit).replace("OTHERS", "" + (255 - bit)));
        }
    }

    private static void leaves() {
        Run.of("6 no such meal: none at all", "leaves 0 = INDEX; leaves -1 = INDEX; meal 0 0; leaves 0 = 1");
        Run.of("6 no such meal: behind the only one", "meal 0 0; leaves 1 = INDEX; leaves 0 = 1");
        Run.of("6 no such meal: before the first", "meal 0 0; leaves -1 = INDEX; leaves 0 = 1");
        Run.of("6 no such meal: behind the sixth", SIX_MEALS, "leaves 5 = 1; leaves 6 = INDEX; leaves 5 = 1");
        Run.of("6 no such meal: far out", SIX_MEALS, "leaves MIN = INDEX; leaves MAX = INDEX");
        Run.of("6 without days: the first knot is a leaf", "meal 0 0; leaves 0 = 1");
        Run.of("6 without days: again", "meal 0 0; days 2*1:3 2*0:8; leaves 0 = 2; drop 0; drop 1; drop 2; drop 3; "
                + "leaves 0 = 1");
        Run.of("6 the tree of another meal", "2 x meal 0 0; days 2*1:3 2*0:8; leaves 0 = 2; leaves 1 = 1");
    }

    private static void split() {
        String parted = "meal 0 0; days 2*1:3 2*0:8;";
        Run.of("7 no such meal: none at all", "split 0 0 0 = INDEX; split -1 0 0 = INDEX; count 0 = 0");
        Run.of("7 no such meal: behind the only one", parted, "split 1 0 0 = INDEX; split 0 0 0 = 0");
        Run.of("7 no such meal: before the first", parted, "split -1 0 0 = INDEX; split 0 0 0 = 0");
        Run.of("7 no such meal: behind the sixth", SIX_MEALS, "split 5 0 0 = NONE; split 6 0 0 = INDEX");
        Run.of("7 no such meal: far out", parted, "split MIN 0 0 = INDEX; split MAX 0 0 = INDEX");
        Run.of("7 marks: 0 and -1", parted, "split 0 0 0 = 0; split 0 -1 0 = ARGUMENT; split 0 0 0 = 0");
        Run.of("7 marks: 255 and 256", parted, "split 0 255 0 = 0; split 0 256 0 = ARGUMENT; split 0 255 0 = 0");
        Run.of("7 marks: far out", parted, "split 0 MIN 0 = ARGUMENT; split 0 MAX 0 = ARGUMENT");
        Run.of("7 marks: also where there are no days, or beyond", "meal 0 0; split 0 256 0 = ARGUMENT; "
                + "split 0 -1 9 = ARGUMENT; split 0 255 9 = NONE");
        Run.of("7 none: it is the leaf", parted, "split 0 0 0 = 0; split 0 0 1 = NONE");
        Run.of("7 none: beyond", parted, "split 0 0 2 = NONE; split 0 0 4 = NONE; split 0 0 MAX = NONE");
        Run.of("7 none: before the first knot", parted, "split 0 0 -1 = NONE; split 0 0 MIN = NONE; split 0 0 0 = 0");
        Run.of("7 none: without days", "meal 0 0; split 0 0 0 = NONE; split 0 255 0 = NONE");
        Run.of("7 none: without days again", parted, "split 0 0 0 = 0; drop 0; drop 1; drop 2; drop 3; "
                + "split 0 0 0 = NONE; split 0 255 1 = NONE");
        Run.of("7 none: the fourth knot is parted, the fifth is the leaf", States.FIVE_MARKS,
                "split 0 9 3 = 3; split 0 9 4 = NONE; split 0 9 5 = NONE; split 0 9 8 = NONE");
    }

    private static void leaf() {
        String parted = "meal 0 0; days 1:3 1:4 0:8 0:9;";
        Run.of("8 no such meal: none at all", "leaf 0 0 0 = INDEX; leaf -1 0 0 = INDEX; count 0 = 0");
        Run.of("8 no such meal: behind the only one", parted, "leaf 1 0 0 = INDEX; leaf 0 0 0 = 2");
        Run.of("8 no such meal: before the first", parted, "leaf -1 0 0 = INDEX; leaf 0 0 0 = 2");
        Run.of("8 no such meal: behind the sixth", SIX_MEALS, "day 0; leaf 5 0 0 = 1; leaf 6 0 0 = INDEX");
        Run.of("8 no such meal: far out", parted, "leaf MIN 0 0 = INDEX; leaf MAX 0 0 = INDEX");
        Run.of("8 marks: 0 and -1", parted, "leaf 0 0 1 = 17; leaf 0 -1 1 = ARGUMENT; leaf 0 0 1 = 17");
        Run.of("8 marks: 255 and 256", parted, "leaf 0 255 1 = 7; leaf 0 256 1 = ARGUMENT; leaf 0 255 1 = 7");
        Run.of("8 marks: far out", parted, "leaf 0 MIN 0 = ARGUMENT; leaf 0 MAX 0 = ARGUMENT");
        Run.of("8 another what: 0 and -1", parted, "leaf 0 0 0 = 2; leaf 0 0 -1 = ARGUMENT; leaf 0 0 0 = 2");
        Run.of("8 another what: 3 and 4", parted, "leaf 0 0 3 = 9; leaf 0 0 4 = ARGUMENT; leaf 0 0 3 = 9");
        Run.of("8 another what: far out", parted, "leaf 0 0 MIN = ARGUMENT; leaf 0 0 MAX = ARGUMENT");
        Run.of("8 another what: also without days", "meal 0 0; leaf 0 0 4 = ARGUMENT; leaf 0 0 -1 = ARGUMENT");
        String nothing = "leaf 0 0 0 = 0; leaf 0 0 1 = 0; leaf 0 0 2 = 0; leaf 0 0 3 = 0; leaf 0 255 2 = 0;";
        Run.of("8 0 without days", "meal 0 0;", nothing);
        Run.of("8 0 without days: again", parted,
                "drop 0; drop 1; drop 2; drop 3;", nothing, "days 0:6; leaf 0 0 2 = 6");
        Run.of("8 the least is 0, the greatest 1000",
                "meal 0 0; days 0:1000 0:0 0:5; leaf 0 0 2 = 0; leaf 0 0 3 = 1000");
        Run.of("8 the least is not 0 where none was", "meal 0 0; days 0:5 0:3; leaf 0 0 2 = 3; leaf 0 0 3 = 5");
        Run.of("8 the greatest sum", "meal 0 0; days 150*0:1000; leaf 0 0 0 = 150; leaf 0 0 1 = 150000; "
                + "leaf 0 0 2 = 1000; leaf 0 0 3 = 1000");
        Run.of("8 one day",
                "meal 0 0; days 0:5; leaf 0 255 0 = 1; leaf 0 255 1 = 5; leaf 0 255 2 = 5; leaf 0 255 3 = 5");
        Run.of("8 days taken away are in no leaf", parted,
                "drop 3 = true; leaf 0 0 0 = 3; leaf 0 0 3 = 8; leaf 0 0 2 = 3");
    }
}
