// What the tests share: it compares answers with those that are due, and keeps the count.
final class Answers {
    static final int[] ODD_POSITIONS = {
        -1, -2, -3, -4, -5, -8, 8, 9, 10, 11, 12, 15, 16, 255, 256, 257, 65535, 65536, 65543,
        -65536, -65529, 1 << 30, Integer.MAX_VALUE - 7, Integer.MAX_VALUE - 3, Integer.MAX_VALUE,
        Integer.MIN_VALUE, Integer.MIN_VALUE + 1, Integer.MIN_VALUE + 7
    };

    private static int wrong = 0;

    private Answers() {
    }

    static void due(String call, int got, int want) {
        if (got != want) {
            wrong++;
            System.out.println(call + " answered " + got + ", due is " + want);
        }
    }

    static void dueRow(String when, SaveUnder object, int... row) {
        for (int i = 0; i < 8; i++) {
            due(when + ": peek(" + i + ")", object.peek(i), row[i]);
        }
    }

    static void fail(String what) {
        wrong++;
        System.out.println(what);
    }

    static void end() {
        System.out.println(wrong == 0 ? "all answers are as due" : wrong + " answers are not as due");
        if (wrong != 0) {
            System.exit(1);
        }
    }
}
