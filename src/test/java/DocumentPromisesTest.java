import java.io.IOException;

/** The document's promises 1 to 19, clause by clause. */
public final class DocumentPromisesTest {
    private static final String MEAL = "meal 0 0;";
    private static final String PARTED = MEAL + "days 1:3 1:4 0:8 0:9;";

    public static void main(String[] args) throws IOException {
        newObject(Document.promise(1));
        meal(Document.promise(2));
        ate(Document.promise(3));
        day(Document.promise(4));
        drop(Document.promise(5));
        leaves(Document.promise(6));
        split(Document.promise(7));
        leaf(Document.promise(8));
        size(Document.promise(9));
        prices(Document.promise(10));
        cost(Document.promise(11));
        pots(Document.promise(12));
        ladles(Document.promise(13));
        ladle(Document.promise(14));
        come(Document.promise(15));
        hatch(Document.promise(16));
        serve(Document.promise(17));
        empty(Document.promise(18));
        count(Document.promise(19));
        Check.end();
    }

    private static void newObject(Document promise) {
        promise.says("No MEALS,", "count 0 = 0; ladles = 0; ladle 0 = INDEX; ate 0 0 = INDEX; meal 0 0 = 0");
        promise.says("DAYS,",
                "count 1 = 0; count 2 = 0; drop 0 = INDEX; meal 0 0; leaf 0 0 0 = 0; cost 0 0 0 = NONE; day 0 = 0");
        promise.says("SIZES;", "count 3 = 0; meal 0 0; days 0:9; pots 0 0 0 0 = 0; cost 0 0 0 = 27; size 9 1 = 0");
        promise.says("nobody comes.", "count 4 = 0; hatch 1 0 = 0; hatch 1 1 = 0; hatch 1 2 = NONE; hatch 1 3 = 0; "
                + "serve 0 = 1; empty = 0; come 0 = 1");
        promise.allIsSaid();
    }

    private static void meal(Document promise) {
        promise.says("A MEAL:",
                "meal 0 0; count 0 = 1; ladles = 1; ladle 0 = 0; ladle 1 = INDEX; leaves 0 = 1; ate 0 1 = 0");
        promise.says("its number.", "meal 1 2 = 0; meal 1 2 = 1; meal 256 0 = ARGUMENT; meal 1 2 = 2");
        promise.says("IllegalArgumentException: bits are not 0 to 255;", "meal -1 0 = ARGUMENT; meal 256 0 = ARGUMENT; "
                + "meal 0 -1 = ARGUMENT; meal 0 256 = ARGUMENT; count 0 = 0; meal 0 0 = 0; meal 255 255 = 1",
                "6 x meal 0 0; meal 256 0 = ARGUMENT; meal 0 -1 = ARGUMENT");
        promise.says("IllegalStateException: there are 6.",
                "5 x meal 0 0; meal 0 0 = 5; meal 0 0 = STATE; count 0 = 6");
        promise.allIsSaid();
    }

    private static void ate(Document promise) {
        promise.says("How many ate a MEAL on the next DAY that is told:",
                "2 x meal 0 0; ate 0 5; ate 1 6; day 0; ate 0 9; day 0; day 0; leaf 0 0 1 = 14; leaf 1 0 1 = 6; "
                + "leaf 0 0 2 = 0",
                MEAL + "ate 0 5; ate 0 7; day 0; leaf 0 0 1 = 7");
        promise.says("what was told so far",
                "2 x meal 0 0; ate 0 5; ate 1 6; ate 0 7 = 5; ate 1 8 = 6; ate 0 0 = 7; ate 0 1 = 0");
        promise.says("(0 at first,", "6 x meal 0 0; ate 0 5 = 0; ate 5 5 = 0");
        promise.says("and behind each DAY).",
                "2 x meal 0 0; ate 0 5; ate 1 6; day 0; ate 0 0 = 0; ate 1 0 = 0; ate 0 7; "
                + "day 256 = ARGUMENT; ate 0 8 = 7; day 0; ate 0 9 = 0",
                "6 x meal 0 0; ate 5 6; day 0; ate 5 7 = 0");
        promise.says("IndexOutOfBoundsException: no such MEAL (so below);", noSuchMeal("", 0), noSuchMeal(MEAL, 1),
                noSuchMeal("6 x meal 0 0;", 6), noSuchMeal(MEAL, -1));
        promise.says("IllegalArgumentException: it is not 0 to 1,000.",
                MEAL + "ate 0 1000 = 0; ate 0 1001 = ARGUMENT; ate 0 -1 = ARGUMENT; ate 0 0 = 1000; ate 0 5 = 0");
        promise.allIsSaid();
    }

    private static String noSuchMeal(String before, int meal) {
        return before + """
            ate % 0 = INDEX
            leaves % = INDEX
            split % 0 0 = INDEX
            leaf % 0 0 = INDEX
            cost % 0 0 = INDEX
            pots % 0 0 0 = INDEX
            ladle % = INDEX
            """.replace("%", "" + meal);
    }

    private static void day(Document promise) {
        promise.says("A DAY with what was told by ate():", "2 x meal 0 0; ate 0 5; ate 1 6; day 0; count 1 = 1; "
                + "leaf 0 0 1 = 5; leaf 1 0 1 = 6; day 0; leaf 0 0 0 = 2; leaf 0 0 1 = 5");
        promise.says("its number.", "day 3 = 0; day 3 = 1; drop 1; day 256 = ARGUMENT; day 3 = 2");
        promise.says("IllegalArgumentException: MARKS are not 0 to 255;",
                "day -1 = ARGUMENT; day 256 = ARGUMENT; count 2 = 0; day 0 = 0; day 255 = 1",
                "150 x day 0; day 256 = ARGUMENT; day -1 = ARGUMENT");
        promise.says("IllegalStateException: there were 150.",
                "149 x day 0; day 0 = 149; day 0 = STATE; drop 0; drop 149; day 0 = STATE; count 1 = 148; "
                + "count 2 = 150");
        promise.allIsSaid();
    }

    private static void drop(Document promise) {
        promise.says("A DAY is taken away: true;",
                PARTED + "drop 3 = true; count 1 = 3; count 2 = 4; leaves 0 = 1; leaf 0 0 0 = 3; leaf 0 0 3 = 8");
        promise.says("false: it was.",
                PARTED + "drop 3 = true; drop 3 = false; count 1 = 3; drop 0 = true; drop 3 = false");
        promise.says("IndexOutOfBoundsException: there was none such.",
                "drop 0 = INDEX; drop -1 = INDEX; 2 x day 0; drop 2 = INDEX; drop -1 = INDEX; drop 1 = true; "
                + "drop 2 = INDEX; "
                + "count 1 = 1");
        promise.allIsSaid();
    }

    private static void leaves(Document promise) {
        promise.says("How many LEAVES the TREE of a MEAL has.", MEAL + "leaves 0 = 1", PARTED + "leaves 0 = 2",
                States.TWO_TREES + "leaves 0 = 3; leaves 1 = 3; drop 0; leaves 0 = 2; leaves 1 = 3",
                States.FIVE_MARKS + "leaves 0 = 16");
        promise.allIsSaid();
    }

    private static void split(Document promise) {
        promise.says("The MARK by which the k-th KNOT on the way to the LEAF of MARKS is parted;",
                States.TWO_TREES + "split 0 3 0 = 0; split 0 3 1 = 1; split 0 1 1 = 1; split 1 2 0 = 1; "
                + "split 1 1 1 = 0",
                States.FIVE_MARKS + "split 0 9 0 = 0; split 0 9 1 = 1; split 0 9 2 = 2; split 0 9 3 = 3");
        promise.says("NONE: it is the LEAF,",
                MEAL + "split 0 0 0 = NONE", PARTED + "split 0 0 1 = NONE; split 0 1 1 = NONE",
                States.TWO_TREES + "split 0 0 1 = NONE; split 0 3 2 = NONE; split 1 3 1 = NONE; split 1 0 2 = NONE",
                States.FIVE_MARKS + "split 0 9 4 = NONE");
        promise.says("or beyond.",
                PARTED + "split 0 0 2 = NONE; split 0 0 4 = NONE; split 0 0 MAX = NONE; split 0 0 -1 = NONE",
                States.FIVE_MARKS + "split 0 9 5 = NONE; split 0 9 8 = NONE");
        promise.says("IllegalArgumentException: MARKS (so below).", wrongMarks(-1), wrongMarks(256),
                PARTED + "split 0 0 0 = 0; split 0 255 0 = 0; leaf 0 0 0 = 2; leaf 0 255 0 = 2; cost 0 0 0 = 51; "
                + "cost 0 255 0 = 21; pots 0 0 0 0 = 0; pots 0 255 0 0 = 0");
        promise.allIsSaid();
    }

    private static String wrongMarks(int marks) {
        return MEAL + """
            split 0 % 0 = ARGUMENT
            split 0 % 9 = ARGUMENT
            leaf 0 % 0 = ARGUMENT
            cost 0 % 0 = ARGUMENT
            pots 0 % 0 0 = ARGUMENT
            """.replace("%", "" + marks);
    }

    private static void leaf(Document promise) {
        promise.says("Of the LEAF of MARKS: 0 how many DAYS,", PARTED + "days 0:7; leaf 0 0 0 = 3; leaf 0 1 0 = 2",
                States.TWO_TREES + "leaf 0 0 0 = 4; leaf 1 0 0 = 2");
        promise.says("1 the sum of what was eaten,", PARTED + "days 0:7; leaf 0 0 1 = 24; leaf 0 1 1 = 7",
                States.TWO_TREES + "leaf 0 0 1 = 160; leaf 1 0 1 = 43");
        promise.says("2 the least,", PARTED + "days 0:7; leaf 0 0 2 = 7; leaf 0 1 2 = 3",
                States.TWO_TREES + "leaf 0 1 2 = 10; leaf 1 0 2 = 20");
        promise.says("3 the greatest", PARTED + "days 0:7; leaf 0 0 3 = 9; leaf 0 1 3 = 4",
                States.TWO_TREES + "leaf 0 1 3 = 12; leaf 1 0 3 = 23");
        String nothing = "leaf 0 0 0 = 0; leaf 0 0 1 = 0; leaf 0 0 2 = 0; leaf 0 255 3 = 0";
        promise.says("(0 without DAYS).", MEAL + nothing, PARTED + "drop 0; drop 1; drop 2; drop 3;" + nothing);
        promise.says("IllegalArgumentException: also another what.",
                PARTED + "leaf 0 0 -1 = ARGUMENT; leaf 0 0 4 = ARGUMENT; leaf 0 256 0 = ARGUMENT; "
                + "leaf 0 -1 0 = ARGUMENT",
                MEAL + "leaf 0 0 4 = ARGUMENT");
        promise.allIsSaid();
    }

    private static void size(Document promise) {
        promise.says("A SIZE:", MEAL + "days 0:10; size 5 2; count 3 = 1; cost 0 0 0 = 4; pots 0 0 0 0 = 2");
        promise.says("its number.", "size 5 2 = 0; size 5 2 = 1; size 0 1 = ARGUMENT; size 1 1 = 2");
        promise.says("IllegalArgumentException: PORTIONS or PRICE;",
                "size 0 1 = ARGUMENT; size 201 1 = ARGUMENT; size 1 0 = ARGUMENT; size 1 10001 = ARGUMENT; "
                + "count 3 = 0; "
                + "size 1 1 = 0; size 200 10000 = 1",
                "4 x size 1 1; size 0 1 = ARGUMENT; size 1 0 = ARGUMENT");
        promise.says("IllegalStateException: there are 4.",
                "3 x size 1 1; size 1 1 = 3; size 1 1 = STATE; count 3 = 4");
        promise.allIsSaid();
    }

    private static void prices(Document promise) {
        String ten = MEAL + "days 0:10;";
        promise.says("WASTE and WANT.",
                ten + "prices 5 7 = void; cost 0 0 12 = 10; cost 0 0 8 = 14; prices 7 5 = void; "
                + "cost 0 0 12 = 14; cost 0 0 8 = 10");
        promise.says("IllegalArgumentException: one is not 0 to 1,000.",
                ten + "prices 5 7; prices -1 9 = ARGUMENT; prices 1001 9 = ARGUMENT; prices 9 -1 = ARGUMENT; "
                + "prices 9 1001 = ARGUMENT; cost 0 0 12 = 10; cost 0 0 8 = 14; prices 0 1000 = void; "
                + "prices 1000 0 = void");
        promise.allIsSaid();
    }

    private static void cost(Document promise) {
        promise.says("COST of the BEST SET;", PARTED + "size 4 1; cost 0 0 0 = 7; cost 0 1 0 = 3; cost 0 0 4 = 5",
                States.TWO_TREES + "size 10 1; size 3 1; cost 0 0 0 = 16; cost 1 0 0 = 9");
        promise.says("NONE: the LEAF has no DAYS.", MEAL + "cost 0 0 0 = NONE; size 1 1; cost 0 255 9 = NONE",
                MEAL + "days 0:0; cost 0 0 0 = 0; drop 0; cost 0 0 0 = NONE");
        promise.says("IllegalArgumentException: also LEFT is not 0 to 10,000 (so below).",
                PARTED + "cost 0 0 0 = 51; cost 0 0 -1 = ARGUMENT; cost 0 0 10000 = 19983; cost 0 0 10001 = ARGUMENT; "
                + "cost 0 -1 0 = ARGUMENT; cost 0 256 0 = ARGUMENT",
                PARTED + "pots 0 0 0 0 = 0; pots 0 0 -1 0 = ARGUMENT; pots 0 0 10000 0 = 0; "
                + "pots 0 0 10001 0 = ARGUMENT; "
                + "pots 0 -1 0 0 = ARGUMENT; pots 0 256 0 0 = ARGUMENT");
        promise.allIsSaid();
    }

    private static void pots(Document promise) {
        promise.says("How many pots of a SIZE the BEST SET has",
                States.TWO_TREES + "size 10 1; size 3 1; pots 0 0 0 0 = 4; pots 0 0 0 1 = 0; pots 1 0 0 0 = 2; "
                + "pots 1 0 0 1 = 1; pots 1 0 10 0 = 1; pots 1 3 0 0 = 5");
        promise.says("(0 of SIZES that there are not);",
                MEAL + "days 0:9; pots 0 0 0 0 = 0; size 3 1; pots 0 0 0 0 = 3; pots 0 0 0 -1 = 0; pots 0 0 0 1 = 0; "
                + "pots 0 0 0 4 = 0; pots 0 0 0 MAX = 0; pots 0 0 0 MIN = 0");
        promise.says("NONE likewise.",
                MEAL + "size 1 1; pots 0 0 0 0 = NONE; pots 0 0 0 1 = NONE; pots 0 0 0 -1 = NONE",
                MEAL + "size 1 1; days 0:3; pots 0 0 0 0 = 3; drop 0; pots 0 0 0 0 = NONE");
        promise.allIsSaid();
    }

    private static void ladles(Document promise) {
        promise.says("How many LADLES;",
                "ladles = 0; meal 1 6; ladles = 1; meal 2 5; ladles = 2; meal 4 3; ladles = 3; "
                + "meal 0 0; ladles = 3");
        promise.says("NONE: a MEAL bars what is in itself.", "meal 6 4; ladles = NONE",
                "5 x meal 0 0; ladles = 1; meal 129 128; ladles = NONE", "meal 2 5; meal 1 2; ladles = 2");
        promise.allIsSaid();
    }

    private static void ladle(Document promise) {
        promise.says("The LADLE of a MEAL;",
                "meal 1 0; meal 2 1; meal 0 2; meal 0 3; ladles = 3; ladle 0 = 0; ladle 1 = 1; "
                + "ladle 2 = 0; ladle 3 = 2");
        promise.says("NONE likewise.",
                "meal 1 0; ladle 0 = 0; meal 6 4; ladle 0 = NONE; ladle 1 = NONE; ladle 2 = INDEX");
        promise.allIsSaid();
    }

    private static void come(Document promise) {
        promise.says("So many come in the next minute:",
                "come 0; come 3; come 1; hatch 1 0 = 2; hatch 1 1 = 5; hatch 1 2 = 4");
        promise.says("how many minutes there are;",
                "come 3 = 1; come 0 = 2; come 101 = ARGUMENT; come 5 = 3; count 4 = 3");
        promise.says("NONE, doing nothing: there are 60.",
                "59 x come 0; come 2 = 60; come 9 = NONE; count 4 = 60; hatch 1 1 = 1; hatch 1 2 = 60; empty = 60");
        promise.says("IllegalArgumentException: they are not 0 to 100.",
                "come -1 = ARGUMENT; come 101 = ARGUMENT; count 4 = 0; come 0 = 1; come 100 = 2",
                "60 x come 0; come 101 = ARGUMENT; come -1 = ARGUMENT");
        promise.allIsSaid();
    }

    private static void hatch(Document promise) {
        String some = "come 0; come 5; come 0; come 1; come 0;";
        promise.says("HATCH: 0 the greatest WAIT,", some + "hatch 1 0 = 4; hatch 2 0 = 2; hatch 5 0 = 0",
                "come 9; 9 x come 0; come 1; hatch 1 0 = 8");
        promise.says("1 the sum of all WAITS,", some + "hatch 1 1 = 13; hatch 2 1 = 4; hatch 5 1 = 0");
        promise.says("2 the minute in which the last one goes", some + "hatch 1 2 = 6; hatch 2 2 = 3; hatch 5 2 = 3");
        promise.says("(NONE: nobody came),", "hatch 1 2 = NONE", "come 0; hatch 1 2 = NONE", "come 1; hatch 1 2 = 0");
        promise.says("3 the longest line that is left behind a minute.",
                some + "hatch 1 3 = 4; hatch 2 3 = 3; hatch 5 3 = 0",
                "come 3; come 5; 9 x come 0; come 4; hatch 2 3 = 4");
        promise.says("IllegalArgumentException: it SERVES not 1 to 100,",
                some + "hatch 0 0 = ARGUMENT; hatch 101 0 = ARGUMENT; hatch -1 0 = ARGUMENT; hatch 1 0 = 4; "
                + "hatch 100 0 = 0",
                "hatch 0 2 = ARGUMENT");
        promise.says("or another what.", some + "hatch 1 -1 = ARGUMENT; hatch 1 4 = ARGUMENT", "hatch 1 4 = ARGUMENT");
        promise.allIsSaid();
    }

    private static void serve(Document promise) {
        promise.says("The least that it must SERVE so that no WAIT is above so many minutes",
                "come 10; serve 0 = 10; serve 1 = 5; serve 2 = 4; serve 3 = 3; serve 4 = 2; serve 8 = 2; serve 9 = 1",
                "come 6; come 6; serve 0 = 6; serve 1 = 4; serve 9 = 2; serve 10 = 1");
        promise.says("(1 to 100;",
                "60 x come 100; serve 0 = 100; serve 1 = 99; serve 5939 = 2; serve 5940 = 1; serve MAX = 1");
        promise.says("1 if nobody came).",
                "serve 0 = 1; come 0; serve 0 = 1; come 7; serve 0 = 7; empty = 2; serve 0 = 1");
        promise.says("IllegalArgumentException: they are below 0.",
                "serve -1 = ARGUMENT; serve MIN = ARGUMENT; come 4; serve -1 = ARGUMENT; serve 0 = 4");
        promise.allIsSaid();
    }

    private static void empty(Document promise) {
        promise.says("Nobody comes any more:", "come 9; come 9; empty; hatch 1 2 = NONE; serve 0 = 1; count 4 = 0; "
                + "come 2 = 1; hatch 1 2 = 1; hatch 1 1 = 1",
                States.SOME + "empty; count 0 = 2; count 1 = 4; count 3 = 1; cost 0 0 0 = 12; ate 0 0 = 33");
        promise.says("how many minutes there were.",
                "empty = 0; come 9; come 0; empty = 2; empty = 0; 60 x come 1; empty = 60");
        promise.allIsSaid();
    }

    private static void count(Document promise) {
        String unlike = "5 x meal 0 0; 4 x day 0; drop 2; 2 x size 1 1; 6 x come 0;";
        promise.says("0 MEALS,", unlike + "count 0 = 5");
        promise.says("1 DAYS that there are,",
                unlike + "count 1 = 3; drop 2 = false; count 1 = 3; drop 0; count 1 = 2");
        promise.says("2 in all,", unlike + "count 2 = 4; drop 0; count 2 = 4; day 0; count 2 = 5");
        promise.says("3 SIZES,", unlike + "count 3 = 2");
        promise.says("4 minutes;", unlike + "count 4 = 6; empty; count 4 = 0");
        promise.says("NONE for others.",
                unlike + "count -1 = NONE; count 5 = NONE; count MIN = NONE; count MAX = NONE");
        promise.allIsSaid();
    }
}
