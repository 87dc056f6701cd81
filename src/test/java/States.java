/** Runs that lead to known states, and behind each what must be answered there and which numbers are given next. */
final class States {
    static final String NEW = "";

    static final String NEW_STAYS = """
        count 0 = 0
        count 1 = 0
        count 2 = 0
        count 3 = 0
        count 4 = 0
        ladles = 0
        hatch 1 0 = 0
        hatch 1 1 = 0
        hatch 1 2 = NONE
        hatch 1 3 = 0
        serve 0 = 1
        empty = 0
        meal 0 0 = 0
        ladles = 1
        leaf 0 0 0 = 0
        cost 0 0 0 = NONE
        ate 0 10 = 0
        day 0 = 0
        leaf 0 255 1 = 10
        cost 0 0 0 = 30             # WANT is 3
        cost 0 0 15 = 5             # WASTE is 1
        pots 0 0 0 0 = 0
        size 10 1 = 0
        pots 0 0 0 0 = 1
        come 1 = 1
        """;

    /** Two meals that bar each other, five days of which one is away, one size, three minutes; and some is told. */
    static final String SOME = """
        meal 1 2 = 0
        meal 2 0 = 1
        ate 1 7
        days 1:4
        ate 1 7
        days 1:5
        ate 1 7
        days 0:9
        ate 1 7
        days 0:9
        days 2:1000
        drop 4 = true
        ate 0 33 = 0
        ate 1 44 = 0
        size 3 2 = 0
        prices 2 7 = void
        come 4 = 1
        come 0 = 2
        come 3 = 3
        """;

    static final String SOME_STAYS = """
        count 0 = 2
        count 1 = 4
        count 2 = 5
        count 3 = 1
        count 4 = 3
        leaves 0 = 2
        leaves 1 = 1
        split 0 0 0 = 0
        split 0 0 1 = NONE
        leaf 0 1 0 = 2
        leaf 0 1 1 = 9
        leaf 0 1 2 = 4
        leaf 0 1 3 = 5
        leaf 0 0 0 = 2
        leaf 0 0 1 = 18
        leaf 1 0 0 = 4
        leaf 1 0 1 = 28
        cost 0 0 0 = 12             # two days with three pots
        pots 0 0 0 0 = 3
        cost 0 1 0 = 14             # two days with two pots, and 2 + 1 too many
        pots 0 1 0 0 = 2
        cost 0 1 4 = 7              # one lacks on one day
        pots 0 1 4 0 = 0
        ladles = 2
        ladle 0 = 0
        ladle 1 = 1
        hatch 2 0 = 1
        hatch 2 1 = 3
        hatch 2 2 = 3
        hatch 2 3 = 2
        serve 0 = 4
        serve 1 = 2
        serve 3 = 2
        serve 4 = 1
        ate 0 34 = 33
        ate 1 45 = 44
        day 0 = 5
        leaf 1 0 3 = 45
        drop 4 = false
        drop 5 = true
        meal 0 0 = 2
        size 1 1 = 1
        come 1 = 4
        empty = 4
        """;

    /** Six meals that bar each other, 150 days, four sizes, sixty minutes. */
    static final String FULL = full();

    static final String FULL_STAYS = """
        count 0 = 6
        count 1 = 150
        count 2 = 150
        count 3 = 4
        count 4 = 60
        leaves 0 = 2
        leaves 5 = 1
        split 0 0 0 = 7
        split 0 0 1 = NONE
        leaf 0 128 0 = 75
        leaf 0 128 1 = 75000
        leaf 0 128 2 = 1000
        leaf 0 127 0 = 75
        leaf 0 127 3 = 0
        leaf 5 0 0 = 150
        leaf 5 0 1 = 0
        cost 0 128 0 = 375          # 75 days with five pots
        pots 0 128 0 0 = 5
        pots 0 128 0 3 = 0
        pots 0 128 0 4 = 0
        cost 0 128 10000 = 675000
        cost 0 0 0 = 0
        ladles = 6
        ladle 0 = 0
        ladle 5 = 5
        hatch 1 0 = 5940
        hatch 1 2 = 5999
        hatch 1 3 = 5940
        hatch 100 1 = 0
        hatch 100 2 = 59
        serve 0 = 100
        ate 0 12 = 0
        ate 5 13 = 21
        drop 149 = true
        day 0 = STATE
        meal 0 0 = STATE
        size 1 1 = STATE
        come 1 = NONE
        empty = 60
        come 1 = 1
        """;

    /** As SOME, but all days are taken away and nobody comes any more. */
    static final String EMPTY_AGAIN = SOME + """
        drop 0 = true
        drop 1 = true
        drop 2 = true
        drop 3 = true
        empty = 3
        """;

    static final String EMPTY_AGAIN_STAYS = """
        count 0 = 2
        count 1 = 0
        count 2 = 5
        count 3 = 1
        count 4 = 0
        leaves 0 = 1
        leaves 1 = 1
        split 0 0 0 = NONE
        split 0 255 0 = NONE
        leaf 0 1 0 = 0
        leaf 0 1 1 = 0
        leaf 0 1 2 = 0
        leaf 0 1 3 = 0
        cost 0 0 0 = NONE
        cost 1 255 10000 = NONE
        pots 0 0 0 0 = NONE
        pots 0 0 0 1 = NONE
        pots 0 0 0 -1 = NONE
        ladles = 2
        ladle 1 = 1
        hatch 2 0 = 0
        hatch 2 1 = 0
        hatch 2 2 = NONE
        hatch 2 3 = 0
        serve 0 = 1
        empty = 0
        drop 0 = false
        drop 4 = false
        come 3 = 1
        hatch 1 1 = 3
        ate 0 9 = 33
        day 0 = 5
        leaf 0 1 0 = 1
        leaf 1 1 1 = 44
        cost 0 1 0 = 6
        cost 0 1 10 = 2
        pots 0 1 0 0 = 3
        drop 5 = true
        cost 0 1 0 = NONE
        """;

    /** Two meals: mark 0 tells how many eat the first, mark 1 how many eat the second, the other mark a little more. */
    static final String TWO_TREES = """
        2 x meal 0 0
        ate 0 10; ate 1 50; day 3
        ate 0 10; ate 1 50; day 3
        ate 0 10; ate 1 20; day 1
        ate 0 12; ate 1 20; day 1
        ate 0 40; ate 1 50; day 2
        ate 0 40; ate 1 50; day 2
        ate 0 40; ate 1 20; day 0
        ate 0 40; ate 1 23; day 0
        """;

    /** 64 days of which marks 0 to 4 each tell something, mark 0 the most: four days in each leaf, parted no more. */
    static final String FIVE_MARKS = fiveMarks();

    private States() {
    }

    private static String fiveMarks() {
        StringBuilder run = new StringBuilder("meal 0 0\n");
        for (int day = 0; day < 64; day++) {
            int marks = day & 31;
            run.append("days " + marks + ":" + (Integer.reverse(marks) >>> 27) + "\n");
        }
        return run.toString();
    }

    private static String full() {
        StringBuilder run = new StringBuilder();
        for (int meal = 0; meal < 6; meal++) {
            int thing = 1 << meal;
            run.append("meal " + thing + " " + (63 - thing) + " = " + meal + "\n");
        }
        return run + """
            days 75*128:1000
            75 x day 0
            ate 5 21 = 0
            size 200 1 = 0
            size 100 1 = 1
            size 50 1 = 2
            size 1 1 = 3
            60 x come 100
            """;
    }
}
