/**
 * Promises 13 to 19 and their terms, and the 512 calls of an object: each sentence that names a boundary has a run of
 * its own, at the last value that is allowed and at the first that is not. The sentence stands in the run's name.
 */
public final class BoundaryLineTest {
    public static void main(String[] args) {
        ladles();
        thingBits();
        ladlesNone();
        ladle();
        comeBounds();
        minutesFull();
        hatchArguments();
        hatchNobody();
        hatchServes();
        hatchAtItsEnds();
        serve();
        serveAtItsEnds();
        empty();
        count();
        calls();
        Check.end();
    }

    private static void ladles() {
        Run.of("13 no meals", "ladles = 0");
        Run.of("13 one meal", "meal 0 0; ladles = 1");
        Run.of("13 six meals with one", "6 x meal 1 2; ladles = 1; ladle 0 = 0; ladle 5 = 0");
        StringBuilder six = new StringBuilder();
        for (int meal = 0; meal < 6; meal++) {
            int thing = 1 << meal;
            six.append("meal " + thing + " " + (63 - thing) + ";");
        }
        Run.of("13 six meals with six", six.toString(), "ladles = 6; ladle 0 = 0; ladle 4 = 4; ladle 5 = 5");
        Run.of("13 nothing in them, all barred", "6 x meal 0 255; ladles = 1");
        Run.of("13 all in them, nothing barred", "6 x meal 255 0; ladles = 1");
        Run.of("13 all in one, all barred by the other", "meal 255 0; meal 0 255; ladles = 2");
        Run.of("13 of none is a thing in it that another one bars: the later bars", "meal 1 0; meal 0 1; ladles = 2");
        Run.of("13 of none is a thing in it that another one bars: the earlier bars", "meal 0 1; meal 1 0; ladles = 2");
        Run.of("13 it grows with each meal",
                "ladles = 0; meal 1 6; ladles = 1; meal 2 5; ladles = 2; meal 4 3; ladles = 3; meal 0 0; "
                + "ladles = 3; meal 256 0 = ARGUMENT; ladles = 3");
    }

    private static void thingBits() {
        for (int bit = 0; bit < 8; bit++) {
            int thing = 1 << bit;
            Run.of("2 things are bits 0 to 7: " + bit,
                    "meal " + thing + " 0; meal 0 " + thing + "; ladles = 2; ladle 1 = 1");
            Run.of("2 things are bits 0 to 7: but " + bit, "meal " + thing + " 0; meal 0 " + (255 - thing)
                    + "; ladles = 1; ladle 1 = 0");
            Run.of("13 a meal bars what is in itself: " + bit, "meal " + thing + " " + thing + "; ladles = NONE");
        }
    }

    private static void ladlesNone() {
        Run.of("13 none: the first bars what is in itself", "meal 1 1; ladles = NONE; 5 x meal 0 0; ladles = NONE");
        Run.of("13 none: the last bars what is in itself", "5 x meal 0 0; ladles = 1; meal 129 128; ladles = NONE");
        Run.of("13 none: all bits", "meal 255 255; ladles = NONE");
        Run.of("13 none: not by what is in another", "meal 1 2; meal 2 1; ladles = 2");
        Run.of("13 none: not by a refused meal", "meal 1 0; meal 257 1 = ARGUMENT; ladles = 1");
    }

    private static void ladle() {
        Run.of("14 no such meal: none at all", "ladle 0 = INDEX; ladle -1 = INDEX; meal 0 0; ladle 0 = 0");
        Run.of("14 no such meal: behind the only one", "meal 0 0; ladle 1 = INDEX; ladle 0 = 0");
        Run.of("14 no such meal: before the first", "meal 0 0; ladle -1 = INDEX; ladle 0 = 0");
        Run.of("14 no such meal: behind the sixth", "6 x meal 0 0; ladle 5 = 0; ladle 6 = INDEX; ladle 5 = 0");
        Run.of("14 no such meal: far out", "meal 0 0; ladle MIN = INDEX; ladle MAX = INDEX");
        Run.of("14 none likewise, for each meal", "meal 0 0; ladle 0 = 0; meal 4 4; ladle 0 = NONE; ladle 1 = NONE; "
                + "ladle 2 = INDEX; ladle -1 = INDEX");
        Run.of("14 meal by meal the least number",
                "meal 1 0; meal 2 1; meal 0 2; ladles = 2; ladle 0 = 0; ladle 1 = 1; ladle 2 = 0");
        Run.of("14 the fewest before the least number",
                "meal 1 0; meal 8 0; meal 2 1; meal 4 10; ladles = 2; ladle 0 = 0; ladle 1 = 1; ladle 2 = 1; "
                + "ladle 3 = 0");
    }

    private static void comeBounds() {
        Run.of("15 they are 0 to 100: 0", "come 0 = 1; hatch 1 2 = NONE");
        Run.of("15 they are 0 to 100: 100", "come 100 = 1; hatch 1 2 = 99");
        Run.of("15 they are not 0 to 100: -1",
                "come 5 = 1; come -1 = ARGUMENT; count 4 = 1; hatch 1 2 = 4; come 0 = 2");
        Run.of("15 they are not 0 to 100: 101",
                "come 5 = 1; come 101 = ARGUMENT; count 4 = 1; hatch 1 2 = 4; come 0 = 2");
        Run.of("15 they are not 0 to 100: far out",
                "come MIN = ARGUMENT; come MAX = ARGUMENT; come 256 = ARGUMENT; count 4 = 0");
    }

    private static void minutesFull() {
        Run.of("15 there are 60: the last goes, the next does nothing", """
            59 x come 0
            count 4 = 59
            come 3 = 60
            count 4 = 60
            hatch 1 2 = 61
            come 100 = NONE
            come 0 = NONE
            come 101 = ARGUMENT
            come -1 = ARGUMENT
            count 4 = 60
            hatch 1 2 = 61
            hatch 1 1 = 3
            serve 0 = 3
            empty = 60
            come 7 = 1
            hatch 7 2 = 0
            """);
        Run.of("15 there are 60: again behind empty", """
            60 x come 1
            come 1 = NONE
            empty = 60
            59 x come 2
            come 2 = 60
            come 2 = NONE
            hatch 2 2 = 59
            hatch 1 2 = 119
            empty = 60
            """);
        Run.of("15 there are 60: refused calls do not count", "60 x come 101 = ARGUMENT; come 0 = 1");
    }

    private static void hatchArguments() {
        String some = "come 3;";
        Run.of("16 it serves 1 to 100: 1 and 0", some, "hatch 1 2 = 2; hatch 0 2 = ARGUMENT; hatch 1 2 = 2");
        Run.of("16 it serves 1 to 100: 100 and 101", some, "hatch 100 2 = 0; hatch 101 2 = ARGUMENT; hatch 100 2 = 0");
        Run.of("16 it serves not 1 to 100: far out", some,
                "hatch -1 0 = ARGUMENT; hatch MIN 0 = ARGUMENT; hatch MAX 0 = ARGUMENT");
        Run.of("16 another what: 0 and -1", some, "hatch 1 0 = 2; hatch 1 -1 = ARGUMENT; hatch 1 0 = 2");
        Run.of("16 another what: 3 and 4", some, "hatch 1 3 = 2; hatch 1 4 = ARGUMENT; hatch 1 3 = 2");
        Run.of("16 another what: far out", some, "hatch 1 MIN = ARGUMENT; hatch 1 MAX = ARGUMENT");
        Run.of("16 wrong numbers also when nobody came",
                "hatch 0 2 = ARGUMENT; hatch 101 2 = ARGUMENT; hatch 1 4 = ARGUMENT; hatch 1 -1 = ARGUMENT; "
                + "hatch 1 2 = NONE");
    }

    private static void hatchNobody() {
        String nobody = "hatch 1 0 = 0; hatch 1 1 = 0; hatch 1 2 = NONE; hatch 1 3 = 0; hatch 100 2 = NONE;";
        Run.of("16 none: nobody came, no minutes", nobody);
        Run.of("16 none: nobody came in a minute", "come 0;", nobody);
        Run.of("16 none: nobody came in sixty minutes", "60 x come 0;", nobody);
        Run.of("16 none: nobody comes any more", "come 5; hatch 1 2 = 4; empty = 1;", nobody, "come 0 = 1;", nobody,
                "come 1 = 2; hatch 1 2 = 1");
        Run.of("16 none is not minute 0", "come 1; hatch 1 2 = 0; hatch 1 0 = 0; hatch 1 1 = 0; hatch 1 3 = 0");
    }

    private static void hatchServes() {
        Run.of("16 so many at most as it serves: just as many",
                "come 4; hatch 4 0 = 0; hatch 4 1 = 0; hatch 4 2 = 0; hatch 4 3 = 0");
        Run.of("16 so many at most as it serves: one more",
                "come 5; hatch 4 0 = 1; hatch 4 1 = 1; hatch 4 2 = 1; hatch 4 3 = 1");
        Run.of("16 so many at most as it serves: twice as many",
                "come 8; hatch 4 0 = 1; hatch 4 1 = 4; hatch 4 2 = 1; hatch 4 3 = 4");
        Run.of("16 so many at most as it serves: one more than twice",
                "come 9; hatch 4 0 = 2; hatch 4 1 = 6; hatch 4 2 = 2; hatch 4 3 = 5");
        Run.of("16 from when some came on: not before",
                "come 0; come 0; come 5; hatch 4 0 = 1; hatch 4 2 = 3; hatch 4 3 = 1");
        Run.of("16 one line: the earlier ones go first",
                "come 3; come 1; hatch 1 0 = 2; hatch 1 1 = 5; hatch 1 2 = 3; hatch 1 3 = 2");
        Run.of("16 the line is empty just when the next come",
                "come 3; come 0; come 0; come 2; hatch 1 0 = 2; hatch 1 1 = 4; hatch 1 2 = 4; hatch 1 3 = 2");
        Run.of("16 what is not served in a minute is not saved",
                "come 1; come 0; come 0; come 4; hatch 2 0 = 1; hatch 2 1 = 2; hatch 2 2 = 4; hatch 2 3 = 2");
        Run.of("16 minutes in which nobody comes behind the last change nothing", "come 9; 59 x come 0; hatch 4 0 = 2; "
                + "hatch 4 1 = 6; hatch 4 2 = 2; hatch 4 3 = 5");
        Run.of("16 the greatest wait is not that of the last",
                "come 9; 9 x come 0; come 1; hatch 1 0 = 8; hatch 1 2 = 10; hatch 1 3 = 8");
    }

    private static void hatchAtItsEnds() {
        String most = "60 x come 100;";
        Run.of("16 sixty times 100, serves 1", most,
                "hatch 1 0 = 5940; hatch 1 1 = 17820000; hatch 1 2 = 5999; hatch 1 3 = 5940");
        Run.of("16 sixty times 100, serves 100", most,
                "hatch 100 0 = 0; hatch 100 1 = 0; hatch 100 2 = 59; hatch 100 3 = 0");
        // one more is left behind each minute; the last of minute 59 has 59 + 99 before him
        Run.of("16 sixty times 100, serves 99", most,
                "hatch 99 0 = 1; hatch 99 2 = 60; hatch 99 3 = 60; hatch 99 1 = 1830");
        Run.of("16 100 in the last minute alone",
                "59 x come 0; come 100; hatch 1 0 = 99; hatch 1 1 = 4950; hatch 1 2 = 158; hatch 1 3 = 99; "
                + "hatch 100 2 = 59; hatch 99 2 = 60");
    }

    private static void serve() {
        Run.of("17 they are below 0: -1 and 0", "come 5; serve 0 = 5; serve -1 = ARGUMENT; serve 0 = 5");
        Run.of("17 they are below 0: far out", "serve MIN = ARGUMENT; serve MAX = 1");
        Run.of("17 they are below 0: also when nobody came", "serve -1 = ARGUMENT; serve 0 = 1");
        Run.of("17 1 if nobody came: no minutes", "serve 0 = 1; serve 7 = 1");
        Run.of("17 1 if nobody came: sixty minutes", "60 x come 0; serve 0 = 1; serve 60 = 1");
        Run.of("17 1 if nobody came: nobody comes any more", "come 50; serve 0 = 50; empty = 1; serve 0 = 1");
        Run.of("17 no wait is above so many: just so many", "come 10; serve 9 = 1; serve 4 = 2; serve 1 = 5");
        Run.of("17 no wait is above so many: one less", "come 10; serve 8 = 2; serve 3 = 3; serve 2 = 4; serve 0 = 10");
        Run.of("17 one comes", "come 1; serve 0 = 1; serve MAX = 1");
    }

    private static void serveAtItsEnds() {
        String most = "60 x come 100;";
        Run.of("17 1 to 100: 100 at once", "come 100; serve 0 = 100; serve 1 = 50; serve 98 = 2; serve 99 = 1");
        Run.of("17 1 to 100: 99 at once", "come 99; serve 0 = 99");
        Run.of("17 1 to 100: sixty times 100", most,
                "serve 0 = 100; serve 1 = 99; serve 5939 = 2; serve 5940 = 1; serve MAX = 1");
    }

    private static void empty() {
        Run.of("18 how many minutes there were: none", "empty = 0; empty = 0; come 0 = 1");
        Run.of("18 how many minutes there were: one", "come 0; empty = 1; empty = 0");
        Run.of("18 how many minutes there were: sixty",
                "60 x come 1; come 1 = NONE; empty = 60; empty = 0; come 1 = 1");
        Run.of("18 nobody comes any more, but all else stays", States.SOME,
                "empty = 3; count 4 = 0; count 0 = 2; count 1 = 4; count 2 = 5; count 3 = 1; cost 0 0 0 = 12; "
                + "ladles = 2; ate 0 0 = 33");
    }

    private static void count() {
        Run.of("19 none for others: -1 and 0", "meal 0 0; count 0 = 1; count -1 = NONE; count 0 = 1");
        Run.of("19 none for others: 4 and 5", "come 0; count 4 = 1; count 5 = NONE; count 4 = 1");
        Run.of("19 none for others: far out",
                "count MIN = NONE; count MAX = NONE; count 256 = NONE; count -256 = NONE");
        Run.of("19 all that is full", States.FULL,
                "count 0 = 6; count 1 = 150; count 2 = 150; count 3 = 4; count 4 = 60");
        Run.of("19 days that there are, and in all",
                "3 x day 0; count 1 = 3; drop 2; count 1 = 2; drop 2; count 1 = 2; drop 0; drop 1; count 1 = 0; "
                + "count 2 = 3; day 0; count 1 = 1; count 2 = 4");
    }

    private static void calls() {
        Run.of("at most 512 calls: the last", "meal 0 0; days 2*1:5 2*0:9; 502 x leaves 0 = 2; leaf 0 0 1 = 18");
        Run.of("at most 512 calls: refused ones count too", "511 x meal 256 0 = ARGUMENT; meal 0 0 = 0");
        // States.SOME has 24 calls
        String[] others = {
            "484 x meal 256 0 = ARGUMENT; 4 x meal 0 0", "4 x meal 0 0; 484 x meal 0 0 = STATE", "488 x ate 0 33 = 33",
            "145 x day 0; 343 x day 0 = STATE", "488 x drop 4 = false", "488 x leaves 0 = 2", "488 x split 0 0 0 = 0",
            "488 x leaf 0 1 1 = 9", "3 x size 1 1; 485 x size 1 1 = STATE", "488 x prices 2 7 = void",
            "488 x cost 0 1 0 = 14", "488 x pots 0 1 0 0 = 2", "488 x ladles = 2", "488 x ladle 1 = 1",
            "57 x come 1; 431 x come 1 = NONE", "488 x hatch 2 1 = 3", "488 x serve 3 = 2",
            "empty = 3; 487 x empty = 0", "488 x count 2 = 5",
        };
        for (String calls : others) {
            Run.of("at most 512 calls: " + calls, States.SOME, calls);
        }
    }
}
