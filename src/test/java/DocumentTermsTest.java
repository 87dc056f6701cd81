import java.io.IOException;

/** The document's section "Terms", clause by clause. */
public final class DocumentTermsTest {
    private static final String MEAL = "meal 0 0;";
    private static final String TEN_EATEN = MEAL + "days 0:10;";

    public static void main(String[] args) throws IOException {
        Document terms = Document.terms();
        meals(terms);
        days(terms);
        spread(terms);
        tree(terms);
        parted(terms);
        leaf(terms);
        sizes(terms);
        wasteAndWant(terms);
        cost(terms);
        bestSet(terms);
        ladles(terms);
        hatch(terms);
        terms.allIsSaid();
        Check.end();
    }

    private static void meals(Document terms) {
        terms.says("MEALS, numbered from 0 on,", "meal 0 0 = 0; meal 7 8 = 1; meal 0 0 = 2");
        terms.says("6 at most,", "5 x meal 0 0; meal 0 0 = 5; meal 0 0 = STATE; count 0 = 6");
        terms.says("have things in them (bits 0 to 7),",
                "meal 129 0; meal 0 1; meal 0 128; ladles = 2; ladle 1 = 1; ladle 2 = 1",
                "meal 129 0; meal 0 126; ladles = 1",
                "meal 255 0 = 0; meal 256 0 = ARGUMENT; meal -1 0 = ARGUMENT");
        terms.says("and things that they bar (bits 0 to 7).",
                "meal 0 129; meal 1 0; meal 128 0; ladles = 2; ladle 1 = 1; ladle 2 = 1",
                "meal 0 129; meal 126 0; ladles = 1",
                "meal 0 255 = 0; meal 0 256 = ARGUMENT; meal 0 -1 = ARGUMENT");
    }

    private static void days(Document terms) {
        terms.says("DAYS, numbered from 0 on,", "day 0 = 0; day 9 = 1; day 0 = 2");
        terms.says("150 at most in all:", "149 x day 0; day 0 = 149; day 0 = STATE; drop 7 = true; day 0 = STATE");
        terms.says("MARKS (bits 0 to 7),",
                MEAL + "days 2*1:0 2*0:9; split 0 0 0 = 0; leaf 0 1 1 = 0; leaf 0 254 1 = 18",
                MEAL + "days 2*128:0 2*0:9; split 0 0 0 = 7; leaf 0 128 1 = 0; leaf 0 127 1 = 18",
                "day 255 = 0; day 256 = ARGUMENT; day -1 = ARGUMENT");
        terms.says("and of each MEAL that there is then how many ate it",
                "2 x meal 0 0; ate 0 5; ate 1 8; day 0; leaf 0 0 1 = 5; leaf 1 0 1 = 8");
        terms.says("(0 to 1,000;", MEAL + "days 0:0 0:1000; leaf 0 0 2 = 0; leaf 0 0 3 = 1000; "
                + "ate 0 -1 = ARGUMENT; ate 0 1001 = ARGUMENT");
        terms.says("0 of later ones).", "day 0; meal 0 0; ate 0 6; day 0; meal 0 0; leaf 0 0 0 = 2; leaf 0 0 1 = 6; "
                + "leaf 0 0 2 = 0; leaf 1 0 0 = 2; leaf 1 0 3 = 0");
        terms.says("A DAY may be taken away",
                MEAL + "days 0:5 0:9; drop 0 = true; count 1 = 1; leaf 0 0 0 = 1; leaf 0 0 1 = 9");
        terms.says("(its number is not given again).",
                "2 x day 0; drop 1 = true; day 0 = 2; drop 1 = false; drop 2 = true; count 2 = 3");
    }

    private static void spread(Document terms) {
        terms.says("SPREAD of some DAYS in a MEAL:", States.TWO_TREES + "split 0 0 0 = 0; split 1 0 0 = 1");
        // Each has a mark 0 that would part better by another rule: the first by distances from the mean or the median,
        // by means of squares, by ranges, by the side that has the mark or by the lesser spread of the two; the second
        // by the side that lacks it or by the greater of the two; the third by the distance of the sums
        terms.says("the sum of the squares of how many ate it, less the square of their sum by how many DAYS these are",
                MEAL + "days 1:5 3:4 2:0 0:10 2:11 0:10 0:7; split 0 0 0 = 1",
                MEAL + "days 2:10 2:8 1:4 1:11 0:3; split 0 0 0 = 1",
                MEAL + "days 3:20 3:19 1:11 2*0:3 0:4; split 0 0 0 = 1");
        // Without fractions the first would not be parted, in doubles the second would be; in floats the third's marks
        // part alike well
        terms.says("(a fraction).",
                MEAL + "days 1:5 1:8 2*0:6; leaves 0 = 2",
                MEAL + "days 2*1:2 1:1 4*0:2 2*0:1; leaves 0 = 1",
                MEAL + "days 1:760 45*1:761 46*2:341 19*2:342 19*0:546 2*0:547; split 0 0 0 = 1");
    }

    private static void tree(Document terms) {
        terms.says("TREE of a MEAL:",
                States.TWO_TREES + "leaves 0 = 3; leaves 1 = 3; split 0 3 1 = 1; split 1 3 1 = NONE");
        terms.says("a KNOT with all DAYS that there are.",
                "day 0; day 0; meal 0 0; days 2*1:9; leaves 0 = 2; leaf 0 0 0 = 2",
                MEAL + "days 2*1:5 3*0:9; leaves 0 = 2; drop 2; leaves 0 = 2; drop 3; leaves 0 = 1; leaf 0 0 0 = 3");
        terms.says("A KNOT is parted by a MARK in those DAYS that have it and those that have not,",
                MEAL + "days 1:1 0:8 1:2 0:9; leaves 0 = 2; leaf 0 1 0 = 2; leaf 0 1 1 = 3; leaf 0 0 0 = 2; "
                + "leaf 0 0 1 = 17");
    }

    private static void parted(Document terms) {
        terms.says("if at least 2 DAYS are on each side,",
                MEAL + "days 2*1:5 2*0:6; leaves 0 = 2",
                MEAL + "days 1:5 9*0:6; leaves 0 = 1",
                MEAL + "days 9*1:5 0:6; leaves 0 = 1");
        terms.says("it was not parted by on the way here,",
                MEAL + "days 4*1:5 4*1:6 4*0:8 4*0:9; leaves 0 = 2; split 0 1 0 = 0; split 0 1 1 = NONE",
                MEAL + "days 2*3:9 2*1:8 2*2:1 2*0:0; split 0 3 0 = 0; split 0 3 1 = 1; split 0 3 2 = NONE");
        terms.says("fewer than 4 were,", States.FIVE_MARKS + "leaves 0 = 16; split 0 31 3 = 3; split 0 31 4 = NONE; "
                + "leaf 0 31 0 = 4; leaf 0 31 2 = 30; leaf 0 31 3 = 31");
        terms.says("and the SPREADS of both sides together are less than its own:",
                MEAL + "days 1:5 1:7 2*0:6; leaves 0 = 1",
                MEAL + "days 1:5 1:7 0:6 0:7; leaves 0 = 2",
                MEAL + "days 2*1:7 2*0:7; leaves 0 = 1");
        terms.says("by that one of which they are least together,",
                MEAL + "days 1:0 1:4 3:8 3:9 2:10 2:9 0:1 0:2; split 0 0 0 = 1",
                MEAL + "days 2:0 2:4 3:8 3:9 1:10 1:9 0:1 0:2; split 0 0 0 = 0");
        terms.says("of these the least MARK;",
                MEAL + "days 2*36:1 2*0:9; split 0 0 0 = 2",
                MEAL + "days 2*64:1 2*128:9; split 0 0 0 = 6",
                MEAL + "days 2*1:1 4*2:1 2:0 3*0:0; split 0 0 0 = 0");
        terms.says("its sides are KNOTS again.", MEAL + "days 2*0:0 2*1:1 2*2:10 2*3:11; leaves 0 = 4; "
                + "split 0 0 0 = 1; split 0 0 1 = 0; split 0 2 1 = 0; leaf 0 3 1 = 22; leaf 0 1 1 = 2");
    }

    private static void leaf(Document terms) {
        terms.says("Others are LEAVES.",
                MEAL + "leaves 0 = 1; split 0 0 0 = NONE; days 3*0:4 1:9; leaves 0 = 1; split 0 1 0 = NONE; "
                + "leaf 0 1 0 = 4");
        terms.says("LEAF of MARKS: down from the first KNOT,",
                States.TWO_TREES + "leaf 0 1 1 = 22; leaf 1 1 1 = 40; leaf 0 0 0 = 4; leaf 1 3 0 = 4");
        terms.says("to the side that the MARKS have.",
                MEAL + "days 2*5:1 2*4:9; leaf 0 5 1 = 2; leaf 0 1 1 = 2; leaf 0 255 1 = 2; leaf 0 4 1 = 18; "
                + "leaf 0 0 1 = 18");
    }

    private static void sizes(Document terms) {
        terms.says("SIZES of pots, numbered from 0 on,", "size 5 1 = 0; size 5 1 = 1; size 9 9 = 2");
        terms.says("4 at most:", "3 x size 1 1; size 1 1 = 3; size 1 1 = STATE; count 3 = 4");
        terms.says("PORTIONS 1 to 200,",
                MEAL + "days 0:201; size 0 1 = ARGUMENT; size 201 1 = ARGUMENT; size 1 1 = 0; size 200 1 = 1; "
                + "cost 0 0 0 = 2; pots 0 0 0 0 = 1; pots 0 0 0 1 = 1");
        terms.says("a PRICE 1 to 10,000.",
                MEAL + "days 0:1; size 1 0 = ARGUMENT; size 1 10001 = ARGUMENT; size 1 1 = 0; cost 0 0 0 = 1",
                MEAL + "days 0:200; prices 1 1000; size 200 10000 = 0; cost 0 0 0 = 10000; pots 0 0 0 0 = 1");
    }

    private static void wasteAndWant(Document terms) {
        terms.says("WASTE (0 to 1,000,", TEN_EATEN + "prices 0 7; cost 0 0 12 = 0; prices 1000 7; cost 0 0 12 = 2000; "
                + "prices 1001 7 = ARGUMENT; prices -1 7 = ARGUMENT; cost 0 0 12 = 2000");
        terms.says("1 at first)", TEN_EATEN + "cost 0 0 11 = 1; cost 0 0 15 = 5");
        terms.says("for a portion too many,",
                TEN_EATEN + "prices 5 7; cost 0 0 10 = 0; cost 0 0 11 = 5; cost 0 0 13 = 15");
        terms.says("WANT (0 to 1,000,", TEN_EATEN + "prices 7 0; cost 0 0 8 = 0; prices 7 1000; cost 0 0 8 = 2000; "
                + "prices 7 1001 = ARGUMENT; prices 7 -1 = ARGUMENT; cost 0 0 8 = 2000");
        terms.says("3 at first)", TEN_EATEN + "cost 0 0 9 = 3; cost 0 0 5 = 15");
        terms.says("for one that lacks.", TEN_EATEN + "prices 5 7; cost 0 0 10 = 0; cost 0 0 9 = 7; cost 0 0 7 = 21");
        terms.says("A SET of pots: so many of each SIZE,",
                MEAL + "days 0:123; size 1 1; size 100 1; size 10 1; cost 0 0 0 = 6; pots 0 0 0 0 = 3; "
                + "pots 0 0 0 1 = 1; "
                + "pots 0 0 0 2 = 2");
        terms.says("12 in all at most.",
                MEAL + "days 0:12; size 1 1; cost 0 0 0 = 12; pots 0 0 0 0 = 12",
                MEAL + "days 0:13; size 1 1; cost 0 0 0 = 15; pots 0 0 0 0 = 12",
                MEAL + "days 0:49; prices 1000 1000; size 1 1; size 10 1; cost 0 0 0 = 1005; pots 0 0 0 1 = 5",
                MEAL + "days 0:944; prices 1000 1000; size 200 1; size 100 1; size 10 1; size 1 1; cost 0 0 0 = 1012",
                MEAL + "days 0:445; prices 1000 1000; size 100 1; size 10 1; size 1 1; cost 0 0 0 = 1012; "
                + "pots 0 0 0 2 = 4");
    }

    private static void cost(Document terms) {
        String pots = States.TWO_TREES + "size 10 1; size 3 1;";
        terms.says("BEST SET for a MEAL,", pots + "cost 0 0 0 = 16; pots 0 0 0 0 = 4; pots 0 0 0 1 = 0; "
                + "cost 1 0 0 = 9; pots 1 0 0 0 = 2; pots 1 0 0 1 = 1");
        terms.says("MARKS", pots + "cost 0 3 0 = 2; cost 0 1 0 = 8; cost 0 2 0 = 16; cost 1 1 0 = 4; cost 1 3 0 = 20; "
                + "pots 1 1 0 0 = 2; pots 1 3 0 0 = 5");
        terms.says("and so many portions LEFT:", pots + "cost 0 0 30 = 4; pots 0 0 30 0 = 1; cost 0 0 37 = 4; "
                + "pots 0 0 37 0 = 0; pots 0 0 37 1 = 1; cost 0 0 45 = 20; pots 0 0 45 0 = 0");
        terms.says("COST is the sum over all DAYS of the LEAF of:",
                MEAL + "days 2*1:10 3*0:20; cost 0 1 0 = 60; cost 0 0 0 = 180; drop 4; cost 0 0 0 = 120; "
                + "cost 0 1 12 = 4");
        terms.says("the PRICES of its pots;",
                MEAL + "days 3*0:30; size 10 4; size 20 7; cost 0 0 0 = 33; cost 0 0 10 = 21; cost 0 0 20 = 12");
        terms.says("WASTE for each portion by which all (its PORTIONS and LEFT)",
                MEAL + "days 0:10; prices 2 1000; size 8 1; cost 0 0 10 = 0; cost 0 0 11 = 2; cost 0 0 7 = 11; "
                + "cost 0 0 1 = 16");
        terms.says("are more than what was eaten on that DAY;",
                MEAL + "days 0:10 0:14; prices 2 1000; size 8 1; cost 0 0 16 = 16; cost 0 0 7 = 14; "
                + "cost 0 0 10000 = 39952");
        terms.says("WANT for each by which they are fewer.",
                MEAL + "days 0:10 0:14; prices 1000 2; size 8 9; cost 0 0 3 = 36; cost 0 0 0 = 34; pots 0 0 0 0 = 1");
    }

    private static void bestSet(Document terms) {
        terms.says("The least COST,",
                MEAL + "days 0:10; size 10 29; cost 0 0 0 = 29; pots 0 0 0 0 = 1",
                MEAL + "days 0:10; size 10 31; cost 0 0 0 = 30; pots 0 0 0 0 = 0");
        // The last has some left: these are no portions of the set
        terms.says("of these the fewest PORTIONS,",
                MEAL + "days 0:10; size 10 30; cost 0 0 0 = 30; pots 0 0 0 0 = 0",
                MEAL + "days 0:10; size 11 1; size 5 1; cost 0 0 0 = 2; pots 0 0 0 0 = 0; pots 0 0 0 1 = 2",
                MEAL + "days 0:100; prices 0 1; size 50 1; size 10 1; cost 0 0 90 = 1; pots 0 0 90 0 = 0; "
                + "pots 0 0 90 1 = 1");
        terms.says("then the fewest pots,",
                MEAL + "days 0:12; size 4 2; size 6 3; cost 0 0 0 = 6; pots 0 0 0 0 = 0; pots 0 0 0 1 = 2",
                MEAL + "days 0:20; size 4 2; size 6 3; cost 0 0 8 = 6; pots 0 0 8 0 = 0; pots 0 0 8 1 = 2");
        terms.says("then the most of SIZE 0,",
                MEAL + "days 0:8; size 4 2; size 2 2; size 6 2; cost 0 0 0 = 4; pots 0 0 0 0 = 2; pots 0 0 0 1 = 0",
                MEAL + "days 0:8; size 2 2; size 4 2; size 6 2; cost 0 0 0 = 4; pots 0 0 0 0 = 1; pots 0 0 0 1 = 0; "
                + "pots 0 0 0 2 = 1");
        terms.says("then of SIZE 1,", MEAL + "days 0:8; size 1 99; size 6 2; size 4 2; size 2 2; cost 0 0 0 = 4; "
                + "pots 0 0 0 0 = 0; pots 0 0 0 1 = 1; pots 0 0 0 2 = 0; pots 0 0 0 3 = 1");
        terms.says("and so on.",
                MEAL + "days 0:8; 2 x size 1 99; 2 x size 8 2; cost 0 0 0 = 2; pots 0 0 0 2 = 1; pots 0 0 0 3 = 0");
    }

    private static void ladles(Document terms) {
        terms.says("LADLES: MEALS that have one in common:",
                "meal 1 2; meal 1 2; meal 4 2; ladles = 1; ladle 0 = 0; ladle 1 = 0; ladle 2 = 0");
        terms.says("of none is a thing in it that another one of them bars.",
                "meal 1 0; meal 0 1; ladles = 2",
                "meal 0 1; meal 1 0; ladles = 2",
                "meal 1 0; meal 2 0; meal 0 2; ladles = 2; ladle 0 = 0; ladle 1 = 0; ladle 2 = 1",
                "meal 2 0; meal 1 0; meal 0 2; ladles = 2; ladle 0 = 0; ladle 1 = 0; ladle 2 = 1",
                "meal 3 4; meal 3 4; ladles = 1");
        terms.says("The fewest LADLES for all MEALS;",
                "meal 1 62; meal 2 61; meal 4 59; meal 8 55; meal 16 47; meal 32 31; ladles = 6; ladle 5 = 5",
                "meal 1 0; meal 8 0; meal 2 1; meal 4 10; ladles = 2; ladle 0 = 0; ladle 1 = 1; ladle 2 = 1; "
                + "ladle 3 = 0",
                "meal 1 40; meal 2 36; meal 4 10; meal 8 5; meal 16 0; meal 32 3; ladles = 3");
        terms.says("of these the first: MEAL by MEAL the least number",
                "meal 1 0; meal 2 1; meal 0 2; ladles = 2; ladle 0 = 0; ladle 1 = 1; ladle 2 = 0",
                "meal 1 40; meal 2 36; meal 4 10; meal 8 5; meal 16 0; meal 32 3; ladle 0 = 0; ladle 1 = 0; "
                + "ladle 2 = 1; "
                + "ladle 3 = 2; ladle 4 = 0; ladle 5 = 1");
        terms.says("(LADLES numbered as they are first used, from 0 on).",
                "meal 1 6; meal 2 5; meal 4 3; meal 1 6; ladles = 3; ladle 0 = 0; ladle 1 = 1; ladle 2 = 2; "
                + "ladle 3 = 0");
    }

    private static void hatch(Document terms) {
        terms.says("HATCH: minute by minute from 0 on so many come",
                "come 2 = 1; hatch 2 2 = 0; come 0 = 2; come 2 = 3; hatch 2 2 = 2; hatch 1 2 = 3");
        terms.says("(0 to 100,", "come 0 = 1; come 100 = 2; hatch 1 2 = 100; come 101 = ARGUMENT; come -1 = ARGUMENT");
        terms.says("60 minutes at most),", "59 x come 0; come 1 = 60; come 1 = NONE; hatch 1 2 = 59; count 4 = 60");
        terms.says("who stand in one line;", "come 3; come 1; hatch 1 1 = 5; hatch 1 2 = 3; hatch 1 3 = 2");
        terms.says("in each minute, from when some came on,",
                "come 0; come 0; come 5; hatch 4 0 = 1; hatch 4 2 = 3; hatch 4 3 = 1",
                "come 1; come 0; come 4; come 0; hatch 2 0 = 1; hatch 2 2 = 3; hatch 2 3 = 2");
        // If the last ones went first, one would wait 3 minutes
        terms.says("the first ones go,", "come 2; come 1; come 1; hatch 1 0 = 1; hatch 1 1 = 3");
        terms.says("so many at most as it SERVES",
                "come 9; hatch 1 2 = 8; hatch 4 2 = 2; hatch 4 1 = 6; hatch 4 3 = 5; hatch 8 2 = 1; hatch 9 2 = 0");
        terms.says("(1 to 100):",
                "come 100; hatch 1 0 = 99; hatch 100 0 = 0; hatch 99 0 = 1; hatch 0 0 = ARGUMENT; "
                + "hatch 101 0 = ARGUMENT");
        terms.says("a WAIT of one who came in minute a and goes in b is b - a.",
                "come 0; come 3; hatch 1 0 = 2; hatch 1 1 = 3; hatch 3 0 = 0",
                "come 0; come 4; come 2; hatch 3 0 = 1; hatch 3 1 = 1; hatch 2 0 = 1; hatch 2 1 = 4");
    }
}
