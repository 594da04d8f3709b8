// Promise 1: every seed is taken, the row is seeded from it, and no sprite is shown.
public final class ConstructionTest {
    private static final int[] SEEDS = {
        0, 1, 2, 5, -1, -2, 255, 256, 8191, 8192, 32767, 32768, 65535, 65536, 65537,
        -65535, -65536, -65537, 1 << 29, 1 << 30, 0x12345678, -0x12345678,
        Integer.MAX_VALUE - 1, Integer.MAX_VALUE, Integer.MIN_VALUE, Integer.MIN_VALUE + 1
    };

    private static int wrong = 0;

    private static void due(String call, int got, int want) {
        if (got != want) {
            wrong++;
            System.out.println(call + " answered " + got + ", due is " + want);
        }
    }

    private static void dueRow(int seed, int... row) {
        SaveUnder object = new SaveUnder(seed);
        for (int i = 0; i < 8; i++) {
            due("seed " + seed + ", peek(" + i + ")", object.peek(i), row[i]);
        }
    }

    // The exact product's low 16 bits do not depend on where the int product wraps.
    private static int seededPixel(int seed, int i) {
        return (int) Math.floorMod((long) seed * (i + 1), 65536L);
    }

    private static void rowsOfTheDocument() {
        dueRow(1, 1, 2, 3, 4, 5, 6, 7, 8);
        dueRow(-1, 65535, 65534, 65533, 65532, 65531, 65530, 65529, 65528);
        dueRow(0, 0, 0, 0, 0, 0, 0, 0, 0);
        dueRow(65536, 0, 0, 0, 0, 0, 0, 0, 0);
    }

    private static void rowsAtTheEdges() {
        dueRow(Integer.MIN_VALUE, 0, 0, 0, 0, 0, 0, 0, 0);
        dueRow(Integer.MAX_VALUE, 65535, 65534, 65533, 65532, 65531, 65530, 65529, 65528);
        dueRow(32768, 32768, 0, 32768, 0, 32768, 0, 32768, 0);
        dueRow(65535, 65535, 65534, 65533, 65532, 65531, 65530, 65529, 65528);
        dueRow(65537, 1, 2, 3, 4, 5, 6, 7, 8);
    }

    private static void rowOfEverySeed() {
        for (int seed : SEEDS) {
            SaveUnder object = new SaveUnder(seed);
            for (int i = 0; i < 8; i++) {
                due("seed " + seed + ", peek(" + i + ")", object.peek(i), seededPixel(seed, i));
            }
        }
    }

    private static void noSpriteAtTheStart() {
        for (int seed : SEEDS) {
            SaveUnder object = new SaveUnder(seed);
            due("seed " + seed + ", first hide()", object.hide(), -1);
            for (int i = 0; i < 8; i++) {
                due("seed " + seed + ", peek(" + i + ") after hide()", object.peek(i), seededPixel(seed, i));
            }
            due("seed " + seed + ", second hide()", object.hide(), -1);
        }
    }

    private static void objectsDoNotShareState() {
        SaveUnder one = new SaveUnder(1);
        SaveUnder two = new SaveUnder(2);
        due("one.show(0, 99)", one.show(0, 99), 4);
        due("two.peek(0) beside one's sprite", two.peek(0), 2);
        due("two.hide() beside one's sprite", two.hide(), -1);
        due("one.peek(0)", one.peek(0), 99);
        due("two.show(0, 77)", two.show(0, 77), 4);
        due("one.hide()", one.hide(), 0);
        due("one.peek(0) after hide()", one.peek(0), 1);
        due("two.hide()", two.hide(), 0);
        due("two.peek(0) after hide()", two.peek(0), 2);
    }

    public static void main(String[] args) {
        rowsOfTheDocument();
        rowsAtTheEdges();
        rowOfEverySeed();
        noSpriteAtTheStart();
        objectsDoNotShareState();
        System.out.println(wrong == 0 ? "all answers are as due" : wrong + " answers are not as due");
        if (wrong != 0) {
            System.exit(1);
        }
    }
}
