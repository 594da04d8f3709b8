// What the tests share: the sentences under test, the answers that are not as due, and inputs.
final class Answers {
    static final int[] BELOW_THE_ROW = {
        -1, -2, -3, -4, -5, -7, -8, -255, -256, -65529, -65536, -(1 << 30),
        Integer.MIN_VALUE + 7, Integer.MIN_VALUE + 1, Integer.MIN_VALUE
    };
    static final int[] ABOVE_THE_ROW = {
        8, 9, 10, 11, 12, 15, 16, 255, 256, 257, 65535, 65536, 65543, 1 << 30,
        Integer.MAX_VALUE - 7, Integer.MAX_VALUE - 3, Integer.MAX_VALUE
    };

    // A prime, so that a walk over all int values in these steps meets every low byte.
    private static final int STEP = 10007;

    private static int sentences = 0;
    private static int wrong = 0;
    private static String untold = "";

    private Answers() {
    }

    interface Test {
        void run();
    }

    interface Each {
        void with(int value);
    }

    // A sentence of the document, or the one case of it that is tested.
    // It is told before the first wrong answer, so that a failure says what is broken.
    static void sentence(String words, Test test) {
        sentences++;
        untold = "broken: " + words + System.lineSeparator();
        try {
            test.run();
        } catch (RuntimeException | Error thrown) {
            thrown.printStackTrace(System.out);
            fail("a call threw " + thrown);
        }
        untold = "";
    }

    static void due(String call, int got, int want) {
        if (got != want) {
            fail(call + " answered " + got + ", due is " + want);
        }
    }

    static void fail(String what) {
        wrong++;
        System.out.println(untold + "  " + what);
        untold = "";
    }

    static void offTheRow(Each each) {
        for (int x : BELOW_THE_ROW) {
            each.with(x);
        }
        for (int x : ABOVE_THE_ROW) {
            each.with(x);
        }
    }

    // From one end of the int values to the other, both ends and all that is near 0 included.
    static void acrossAllInts(Each each) {
        for (long value = Integer.MIN_VALUE; value <= Integer.MAX_VALUE; value += STEP) {
            each.with((int) value);
        }
        for (int value = -300; value <= 300; value++) {
            each.with(value);
        }
        each.with(Integer.MAX_VALUE);
    }

    static void end() {
        System.out.println(sentences + " sentences tested, " + wrong + " answers are not as due");
        if (wrong != 0) {
            System.exit(1);
        }
    }
}
