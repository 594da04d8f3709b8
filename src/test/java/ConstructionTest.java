// Promise 1: every seed is taken, the row is seeded from it, and no sprite is shown.
public final class ConstructionTest {
    private static final int[] SEEDS = {
        0, 1, 2, 5, -1, -2, 255, 256, 8191, 8192, 32767, 32768, 65535, 65536, 65537,
        -65535, -65536, -65537, 1 << 29, 1 << 30, 0x12345678, -0x12345678,
        Integer.MAX_VALUE - 1, Integer.MAX_VALUE, Integer.MIN_VALUE, Integer.MIN_VALUE + 1
    };

    private static void newRow(int seed, int... row) {
        Answers.dueRow("seed " + seed, new SaveUnder(seed), row);
    }

    private static void rowsOfTheDocument() {
        newRow(1, 1, 2, 3, 4, 5, 6, 7, 8);
        newRow(-1, 65535, 65534, 65533, 65532, 65531, 65530, 65529, 65528);
        newRow(0, 0, 0, 0, 0, 0, 0, 0, 0);
        newRow(65536, 0, 0, 0, 0, 0, 0, 0, 0);
    }

    private static void rowsAtTheEdges() {
        newRow(Integer.MIN_VALUE, 0, 0, 0, 0, 0, 0, 0, 0);
        newRow(Integer.MAX_VALUE, 65535, 65534, 65533, 65532, 65531, 65530, 65529, 65528);
        newRow(32768, 32768, 0, 32768, 0, 32768, 0, 32768, 0);
        newRow(65535, 65535, 65534, 65533, 65532, 65531, 65530, 65529, 65528);
        newRow(65537, 1, 2, 3, 4, 5, 6, 7, 8);
    }

    // The low 16 bits are the same whether the product wraps at 32 bits or not,
    // so a long product is a due answer that does not repeat the program's own sum.
    private static int[] seededRow(int seed) {
        int[] row = new int[8];
        for (int i = 0; i < 8; i++) {
            row[i] = (int) Math.floorMod((long) seed * (i + 1), 65536L);
        }
        return row;
    }

    private static void rowOfEverySeed() {
        for (int seed : SEEDS) {
            newRow(seed, seededRow(seed));
        }
    }

    private static void noSpriteAtTheStart() {
        for (int seed : SEEDS) {
            SaveUnder object = new SaveUnder(seed);
            Answers.due("seed " + seed + ": first hide()", object.hide(), -1);
            Answers.dueRow("seed " + seed + " after hide()", object, seededRow(seed));
            Answers.due("seed " + seed + ": second hide()", object.hide(), -1);
        }
    }

    private static void objectsDoNotShareState() {
        SaveUnder one = new SaveUnder(1);
        SaveUnder two = new SaveUnder(2);
        Answers.due("one.show(0, 99)", one.show(0, 99), 4);
        Answers.dueRow("two beside one's sprite", two, 2, 4, 6, 8, 10, 12, 14, 16);
        Answers.due("two.hide() beside one's sprite", two.hide(), -1);
        Answers.due("two.show(1, 77)", two.show(1, 77), 4);
        Answers.dueRow("one beside two's sprite", one, 99, 99, 99, 99, 5, 6, 7, 8);
        Answers.due("one.hide()", one.hide(), 0);
        Answers.due("two.hide()", two.hide(), 1);
        Answers.dueRow("one at the end", one, 1, 2, 3, 4, 5, 6, 7, 8);
        Answers.dueRow("two at the end", two, 2, 4, 6, 8, 10, 12, 14, 16);
    }

    public static void main(String[] args) {
        rowsOfTheDocument();
        rowsAtTheEdges();
        rowOfEverySeed();
        noSpriteAtTheStart();
        objectsDoNotShareState();
        Answers.end();
    }
}
