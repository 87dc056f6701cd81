/**
 * Promises 9 to 12 and their terms: each sentence that names a boundary has a run of its own, at the last value that is
 * allowed and at the first that is not. The sentence stands in the run's name.
 */
public final class BoundaryPotsTest {
    private static final String MEAL = "meal 0 0;";
    private static final String SIX_MEALS = "6 x meal 0 0;";

    public static void main(String[] args) {
        portions();
        price();
        sizesFull();
        firstPrices();
        waste();
        want();
        costArguments();
        costNone();
        costOfAPortion();
        costAtItsEnds();
        potsArguments();
        potsNone();
        sizesThatThereAreNot();
        twelvePots();
        equalCosts();
        Check.end();
    }

    private static void portions() {
        Run.of("9 portions 1 to 200: 1", MEAL, "days 0:2; size 1 1 = 0; pots 0 0 0 0 = 2; cost 0 0 0 = 2");
        Run.of("9 portions 1 to 200: 200", MEAL, "days 0:400; size 200 1 = 0; pots 0 0 0 0 = 2; cost 0 0 0 = 2");
        Run.of("9 portions: 0", MEAL, "days 0:2; size 0 1 = ARGUMENT; count 3 = 0; cost 0 0 0 = 6; size 1 1 = 0");
        Run.of("9 portions: 201", MEAL, "days 0:2; size 201 1 = ARGUMENT; count 3 = 0; cost 0 0 0 = 6; size 1 1 = 0");
        Run.of("9 portions: far out", "size -1 1 = ARGUMENT; size MIN 1 = ARGUMENT; size MAX 1 = ARGUMENT; "
                + "size 257 1 = ARGUMENT; size 65537 1 = ARGUMENT; count 3 = 0");
    }

    private static void price() {
        Run.of("9 price 1 to 10,000: 1", MEAL, "days 0:1; size 1 1 = 0; cost 0 0 0 = 1");
        Run.of("9 price 1 to 10,000: 10000", MEAL, "prices 1 1000; days 0:200; size 200 10000 = 0; cost 0 0 0 = 10000; "
                + "pots 0 0 0 0 = 1");
        Run.of("9 price: 0", MEAL, "days 0:2; size 1 0 = ARGUMENT; count 3 = 0; cost 0 0 0 = 6; size 1 1 = 0");
        Run.of("9 price: 10001", MEAL, "days 0:2; size 1 10001 = ARGUMENT; count 3 = 0; cost 0 0 0 = 6; size 1 1 = 0");
        Run.of("9 price: far out", "size 1 -1 = ARGUMENT; size 1 MIN = ARGUMENT; size 1 MAX = ARGUMENT; "
                + "size 1 65537 = ARGUMENT; count 3 = 0");
    }

    private static void sizesFull() {
        Run.of("9 there are 4: the fourth goes, the fifth not", MEAL, """
            days 0:200
            size 1 10 = 0
            size 1 10 = 1
            size 1 10 = 2
            count 3 = 3
            pots 0 0 0 3 = 0
            size 200 1 = 3
            count 3 = 4
            pots 0 0 0 3 = 1
            size 100 1 = STATE
            size 200 1 = STATE
            size 0 1 = ARGUMENT     # named first
            size 1 10001 = ARGUMENT
            count 3 = 4
            pots 0 0 0 3 = 1
            pots 0 0 0 4 = 0
            cost 0 0 0 = 1
            """);
        Run.of("9 there are 4: refused calls before do not count",
                "4 x size 0 1 = ARGUMENT; size 1 1 = 0; 2 x size 1 1; size 1 1 = 3; size 1 1 = STATE");
        Run.of("9 equal sizes are two", "size 5 5 = 0; size 5 5 = 1; count 3 = 2");
    }

    private static void firstPrices() {
        Run.of("10 waste is 1 at first", MEAL, "days 0:0; cost 0 0 1 = 1; cost 0 0 9 = 9");
        Run.of("10 want is 3 at first", MEAL, "days 0:1; cost 0 0 0 = 3; days 0:9; cost 0 0 0 = 30");
    }

    private static void waste() {
        String both = MEAL + "days 0:10; prices 5 6 = void;";
        String asBefore = "cost 0 0 12 = 10; cost 0 0 8 = 12;";
        Run.of("10 waste 0 to 1,000: 0", both, "prices 0 6 = void; cost 0 0 12 = 0; cost 0 0 8 = 12");
        Run.of("10 waste 0 to 1,000: 1000", both, "prices 1000 6 = void; cost 0 0 12 = 2000; cost 0 0 8 = 12");
        Run.of("10 waste is not 0 to 1,000: -1", both, "prices -1 7 = ARGUMENT;", asBefore);
        Run.of("10 waste is not 0 to 1,000: 1001", both, "prices 1001 7 = ARGUMENT;", asBefore);
        Run.of("10 waste is not 0 to 1,000: far out", both,
                "prices MIN 7 = ARGUMENT; prices MAX 7 = ARGUMENT;", asBefore);
    }

    private static void want() {
        String both = MEAL + "days 0:10; prices 5 6 = void;";
        String asBefore = "cost 0 0 12 = 10; cost 0 0 8 = 12;";
        Run.of("10 want 0 to 1,000: 0", both, "prices 5 0 = void; cost 0 0 12 = 10; cost 0 0 8 = 0");
        Run.of("10 want 0 to 1,000: 1000", both, "prices 5 1000 = void; cost 0 0 12 = 10; cost 0 0 8 = 2000");
        Run.of("10 want is not 0 to 1,000: -1", both, "prices 7 -1 = ARGUMENT;", asBefore);
        Run.of("10 want is not 0 to 1,000: 1001", both, "prices 7 1001 = ARGUMENT;", asBefore);
        Run.of("10 want is not 0 to 1,000: far out", both,
                "prices 7 MIN = ARGUMENT; prices 7 MAX = ARGUMENT;", asBefore);
        Run.of("10 one is not: both are not", both, "prices -1 1001 = ARGUMENT;", asBefore);
        Run.of("10 both 0", both, "prices 0 0 = void; size 1 1; cost 0 0 0 = 0; cost 0 0 99 = 0; pots 0 0 0 0 = 0");
        Run.of("10 both 1000", both, "prices 1000 1000 = void; cost 0 0 9 = 1000; cost 0 0 11 = 1000");
    }

    private static void costArguments() {
        String some = MEAL + "days 0:10;";
        Run.of("11 no such meal: none at all", "cost 0 0 0 = INDEX; cost -1 0 0 = INDEX; count 0 = 0");
        Run.of("11 no such meal: behind the only one", some, "cost 1 0 0 = INDEX; cost 0 0 0 = 30");
        Run.of("11 no such meal: before the first", some, "cost -1 0 0 = INDEX; cost 0 0 0 = 30");
        Run.of("11 no such meal: behind the sixth", SIX_MEALS, "day 0; cost 5 0 0 = 0; cost 6 0 0 = INDEX");
        Run.of("11 no such meal: far out", some, "cost MIN 0 0 = INDEX; cost MAX 0 0 = INDEX");
        Run.of("11 marks: 0 and -1", some, "cost 0 0 0 = 30; cost 0 -1 0 = ARGUMENT; cost 0 0 0 = 30");
        Run.of("11 marks: 255 and 256", some, "cost 0 255 0 = 30; cost 0 256 0 = ARGUMENT; cost 0 255 0 = 30");
        Run.of("11 marks: far out", some, "cost 0 MIN 0 = ARGUMENT; cost 0 MAX 0 = ARGUMENT");
        Run.of("11 left: 0 and -1", some, "cost 0 0 0 = 30; cost 0 0 -1 = ARGUMENT; cost 0 0 0 = 30");
        Run.of("11 left: 10000 and 10001", some, "cost 0 0 10000 = 9990; cost 0 0 10001 = ARGUMENT; cost 0 0 0 = 30");
        Run.of("11 left: far out", some, "cost 0 0 MIN = ARGUMENT; cost 0 0 MAX = ARGUMENT");
        Run.of("11 wrong numbers also without days", MEAL, "cost 0 256 0 = ARGUMENT; cost 0 0 10001 = ARGUMENT; "
                + "cost 0 0 -1 = ARGUMENT; cost 0 0 10000 = NONE");
    }

    private static void costNone() {
        Run.of("11 none: the leaf has no days", MEAL, "cost 0 0 0 = NONE; cost 0 255 10000 = NONE");
        Run.of("11 none: no days, but sizes", MEAL, "size 1 1; prices 0 0; cost 0 0 0 = NONE; cost 0 255 7 = NONE");
        Run.of("11 none: all days taken away", MEAL,
                "size 1 1; days 0:1 1:1; cost 0 0 0 = 2; drop 0 = true; cost 0 0 0 = 1; drop 1 = true; "
                + "cost 0 0 0 = NONE; days 0:2; cost 0 0 0 = 2");
        Run.of("11 none is not a cost of 0", MEAL, "days 0:0; cost 0 0 0 = 0; size 1 1; cost 0 0 0 = 0; drop 0 = true; "
                + "cost 0 0 0 = NONE");
        Run.of("11 marks that no day had lead to a leaf with days", MEAL, "days 0:4 0:4; cost 0 255 0 = 24");
    }

    private static void costOfAPortion() {
        String one = MEAL + "days 0:10; prices 5 7;";
        Run.of("11 waste for each by which all are more: just as many", one, "cost 0 0 10 = 0");
        Run.of("11 waste for each by which all are more: one more", one, "cost 0 0 11 = 5");
        Run.of("11 want for each by which they are fewer: one fewer", one, "cost 0 0 9 = 7");
        Run.of("11 more on one day and fewer on the other", MEAL, "days 0:10 0:12; prices 5 7; cost 0 0 10 = 14; "
                + "cost 0 0 11 = 12; cost 0 0 12 = 10");
        Run.of("11 all are portions and left", one, "size 4 1; cost 0 0 6 = 1; pots 0 0 6 0 = 1; cost 0 0 2 = 2; "
                + "pots 0 0 2 0 = 2; cost 0 0 7 = 6; pots 0 0 7 0 = 1");
        Run.of("11 the prices of its pots on each day of the leaf", MEAL,
                "size 10 3; days 2*1:10 3*0:0; cost 0 1 0 = 6; cost 0 0 0 = 0; drop 0 = true; days 1:10 1:10; "
                + "cost 0 1 0 = 9");
        Run.of("11 eaten 0 and 1000 in one leaf", MEAL, "days 0:0 0:1000; cost 0 0 0 = 3000; cost 0 0 1000 = 1000; "
                + "cost 0 0 1001 = 1002; cost 0 0 999 = 1002; cost 0 0 10000 = 19000");
    }

    private static void costAtItsEnds() {
        String most = MEAL + "days 150*0:1000; prices 1000 1000;";
        String least = MEAL + "150 x day 0; prices 1000 1000;";
        String sizes = "4 x size 200 10000;";
        Run.of("11 the greatest want", most, "cost 0 0 0 = 150000000; cost 0 0 999 = 150000");
        Run.of("11 the greatest waste", least, "cost 0 0 10000 = 1500000000; cost 0 0 1 = 150000");
        Run.of("11 the greatest waste, with the dearest pots", least, sizes,
                "cost 0 0 10000 = 1500000000; pots 0 0 10000 0 = 0");
        Run.of("11 the greatest eaten, with the dearest pots", most, sizes, "cost 0 0 0 = 7500000; pots 0 0 0 0 = 5; "
                + "cost 0 0 1000 = 0; cost 0 0 10000 = 1350000000");
    }

    private static void potsArguments() {
        String some = MEAL + "size 5 1; days 0:10;";
        Run.of("12 no such meal: none at all", "pots 0 0 0 0 = INDEX; pots -1 0 0 0 = INDEX; count 0 = 0");
        Run.of("12 no such meal: behind the only one", some, "pots 1 0 0 0 = INDEX; pots 0 0 0 0 = 2");
        Run.of("12 no such meal: before the first", some, "pots -1 0 0 0 = INDEX; pots 0 0 0 0 = 2");
        Run.of("12 no such meal: behind the sixth", SIX_MEALS, "day 0; pots 5 0 0 0 = 0; pots 6 0 0 0 = INDEX");
        Run.of("12 no such meal: far out", some, "pots MIN 0 0 0 = INDEX; pots MAX 0 0 0 = INDEX");
        Run.of("12 marks: 0 and -1", some, "pots 0 0 0 0 = 2; pots 0 -1 0 0 = ARGUMENT; pots 0 0 0 0 = 2");
        Run.of("12 marks: 255 and 256", some, "pots 0 255 0 0 = 2; pots 0 256 0 0 = ARGUMENT; pots 0 255 0 0 = 2");
        Run.of("12 marks: far out", some, "pots 0 MIN 0 0 = ARGUMENT; pots 0 MAX 0 0 = ARGUMENT");
        Run.of("12 left: 0 and -1", some, "pots 0 0 0 0 = 2; pots 0 0 -1 0 = ARGUMENT; pots 0 0 0 0 = 2");
        Run.of("12 left: 10000 and 10001", some, "pots 0 0 10000 0 = 0; pots 0 0 10001 0 = ARGUMENT; pots 0 0 0 0 = 2");
        Run.of("12 left: far out", some, "pots 0 0 MIN 0 = ARGUMENT; pots 0 0 MAX 0 = ARGUMENT");
        Run.of("12 wrong numbers also of sizes that there are not", some,
                "pots 0 256 0 9 = ARGUMENT; pots 0 0 -1 -1 = ARGUMENT");
        Run.of("12 wrong numbers also without days", MEAL, "pots 0 256 0 0 = ARGUMENT; pots 0 0 10001 0 = ARGUMENT");
    }

    private static void potsNone() {
        Run.of("12 none likewise: without days", MEAL, "size 1 1; pots 0 0 0 0 = NONE; pots 0 255 10000 0 = NONE");
        Run.of("12 none likewise: without days and sizes", MEAL,
                "pots 0 0 0 0 = NONE; pots 0 0 0 -1 = NONE; pots 0 0 0 4 = NONE");
        Run.of("12 none likewise: all days taken away", MEAL, "size 1 1; days 0:1; pots 0 0 0 0 = 1; drop 0 = true; "
                + "pots 0 0 0 0 = NONE; pots 0 0 0 1 = NONE; days 0:2; pots 0 0 0 0 = 2");
    }

    private static void sizesThatThereAreNot() {
        String some = MEAL + "days 0:9;";
        Run.of("12 0 of sizes that there are not: none at all", some,
                "pots 0 0 0 0 = 0; pots 0 0 0 3 = 0; pots 0 0 0 -1 = 0");
        Run.of("12 0 of sizes that there are not: before the first", some,
                "size 3 1; pots 0 0 0 0 = 3; pots 0 0 0 -1 = 0");
        Run.of("12 0 of sizes that there are not: behind the last", some, "size 3 1; pots 0 0 0 1 = 0; size 9 1; "
                + "pots 0 0 0 0 = 0; pots 0 0 0 1 = 1; pots 0 0 0 2 = 0");
        Run.of("12 0 of sizes that there are not: behind the fourth", some, "3 x size 1 9; size 9 1; pots 0 0 0 3 = 1; "
                + "pots 0 0 0 4 = 0; pots 0 0 0 12 = 0");
        Run.of("12 0 of sizes that there are not: far out", some, "size 3 1; pots 0 0 0 MIN = 0; pots 0 0 0 MAX = 0");
    }

    private static void twelvePots() {
        Run.of("12 a set of 12 in all at most: 11 are enough", MEAL,
                "size 1 1; days 0:11; pots 0 0 0 0 = 11; cost 0 0 0 = 11");
        Run.of("12 a set of 12 in all at most: just 12", MEAL,
                "size 1 1; days 0:12; pots 0 0 0 0 = 12; cost 0 0 0 = 12");
        Run.of("12 a set of 12 in all at most: no 13", MEAL, "size 1 1; days 0:13; pots 0 0 0 0 = 12; cost 0 0 0 = 15");
        Run.of("12 a set of 12 in all at most: of equal sizes", MEAL, "4 x size 1 1; days 0:13; pots 0 0 0 0 = 12; "
                + "pots 0 0 0 1 = 0; pots 0 0 0 3 = 0; cost 0 0 0 = 15");
        String two = MEAL + "prices 1000 1000; size 1 1; size 10 1;";
        Run.of("12 a set of 12 in all at most: 9 and 3", two,
                "days 0:39; cost 0 0 0 = 12; pots 0 0 0 0 = 9; pots 0 0 0 1 = 3");
        Run.of("12 a set of 12 in all at most: not 9 and 4", two, "days 0:49; cost 0 0 0 = 1005; pots 0 0 0 0 = 0; "
                + "pots 0 0 0 1 = 5");
        String three = MEAL + "prices 1000 1000; size 100 1; size 10 1; size 1 1;";
        Run.of("12 a set of 12 in all at most: 4, 4 and 4", three,
                "days 0:444; cost 0 0 0 = 12; pots 0 0 0 0 = 4; pots 0 0 0 1 = 4; pots 0 0 0 2 = 4");
        Run.of("12 a set of 12 in all at most: not 4, 4 and 5", three,
                "days 0:445; cost 0 0 0 = 1012; pots 0 0 0 0 = 4; pots 0 0 0 1 = 4; pots 0 0 0 2 = 4");
        String four = MEAL + "prices 1000 1000; size 200 1; size 100 1; size 10 1; size 1 1;";
        Run.of("12 a set of 12 in all at most: 4, 1, 4 and 3", four, "days 0:943; cost 0 0 0 = 12; pots 0 0 0 0 = 4; "
                + "pots 0 0 0 1 = 1; pots 0 0 0 2 = 4; pots 0 0 0 3 = 3");
        Run.of("12 a set of 12 in all at most: not 4, 1, 4 and 4", four,
                "days 0:944; cost 0 0 0 = 1012; pots 0 0 0 3 = 3");
        Run.of("12 a set of none", MEAL, "size 10 1; days 0:10; pots 0 0 10 0 = 0; cost 0 0 10 = 0; pots 0 0 9 0 = 0; "
                + "pots 0 0 0 0 = 1");
        Run.of("12 twelve of the greatest", MEAL, "size 80 1; prices 1000 1000; days 0:1000; pots 0 0 0 0 = 12; "
                + "cost 0 0 0 = 40012");
    }

    private static void equalCosts() {
        String ten = MEAL + "prices 1 1000; days 0:10;";
        Run.of("12 the least cost: a pot spares just its price", ten,
                "size 10 10000; cost 0 0 0 = 10000; pots 0 0 0 0 = 0");
        Run.of("12 the least cost: a pot spares one more", ten, "size 10 9999; cost 0 0 0 = 9999; pots 0 0 0 0 = 1");
        Run.of("12 of these the fewest portions: waste is 0", MEAL, "prices 0 1; days 0:10; size 200 1; size 10 1; "
                + "cost 0 0 0 = 1; pots 0 0 0 0 = 0; pots 0 0 0 1 = 1");
        Run.of("12 of these the fewest portions, though more pots", MEAL,
                "days 0:10; size 11 1; size 5 1; cost 0 0 0 = 2; pots 0 0 0 0 = 0; pots 0 0 0 1 = 2");
        Run.of("12 then the fewest pots", MEAL, "days 0:12; size 4 2; size 6 3; pots 0 0 0 0 = 0; pots 0 0 0 1 = 2");
        Run.of("12 then the most of size 0", MEAL, "days 0:8; size 4 2; size 2 2; size 6 2; cost 0 0 0 = 4; "
                + "pots 0 0 0 0 = 2; pots 0 0 0 1 = 0; pots 0 0 0 2 = 0");
        Run.of("12 then of size 1", MEAL, "days 0:8; size 1 99; size 6 2; size 4 2; size 2 2; cost 0 0 0 = 4; "
                + "pots 0 0 0 0 = 0; pots 0 0 0 1 = 1; pots 0 0 0 2 = 0; pots 0 0 0 3 = 1");
        Run.of("12 and so on: of size 2", MEAL,
                "days 0:8; 2 x size 1 99; 2 x size 8 2; pots 0 0 0 2 = 1; pots 0 0 0 3 = 0");
        Run.of("12 and so on: of equal sizes all the first", MEAL,
                "days 0:8; 4 x size 2 1; cost 0 0 0 = 4; pots 0 0 0 0 = 4; pots 0 0 0 1 = 0; pots 0 0 0 3 = 0");
    }
}
