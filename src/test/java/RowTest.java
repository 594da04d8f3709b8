// The sections "What it is" and "The public face", sentence by sentence;
// the members of the face themselves are in FaceTest.
public final class RowTest {
    private static final int SEED = 1;
    private static final int[] ROW = {1, 2, 3, 4, 5, 6, 7, 8};

    private static void leastAndGreatestPixel() {
        new Run(0).row(0, 0, 0, 0, 0, 0, 0, 0).show(2, 65535, 4).row(0, 0, 65535, 65535, 65535, 65535, 0, 0);
        new Run(65535).peek(0, 65535).show(0, 0, 4).peek(0, 0).hide(0).peek(0, 65535);
        new Run(0).show(7, 65536, 1).peek(7, 0).show(7, -1, 1).peek(7, 65535);
    }

    // The two sprites do not overlap, so both would fit on the row.
    private static void oneSpriteAtMost() {
        new Run(SEED).show(0, 50, 4).show(4, 99, 4).row(1, 2, 3, 4, 99, 99, 99, 99).hide(4).row(ROW).hide(-1);
        new Run(SEED).show(4, 50, 4).show(0, 99, 4).row(99, 99, 99, 99, 5, 6, 7, 8).hide(0).row(ROW).hide(-1);
    }

    private static void positions() {
        new Run(SEED).peek(0, 1).peek(7, 8).peek(-1, -1).peek(8, -1);
        new Run(SEED).show(0, 50, 4).hide(0).show(7, 50, 1).hide(7);
        new Run(SEED).show(-1, 50, 0).hide(-1).show(8, 50, 0).hide(-1);
    }

    private static void cover() {
        for (int x = 0; x < 8; x++) {
            for (int i = 0; i < 8; i++) {
                boolean covered = i == x || i == x + 1 || i == x + 2 || i == x + 3;
                new Run(SEED).show(x, 50, Run.width(x)).peek(i, covered ? 50 : ROW[i]);
            }
        }
    }

    // Neither at the start of the row, as if it were a ring, nor at its last pixel.
    private static void beyondTheEnd() {
        for (int x = 5; x < 8; x++) {
            Run run = new Run(SEED).show(x, 50, 8 - x).peek(0, 1).peek(1, 2).peek(2, 3).peek(8, -1).peek(x + 3, -1);
            run.hide(x).row(ROW);
        }
    }

    // A sprite partly left of the row is not cut off there, it is refused.
    private static void beforeTheStart() {
        for (int x = -3; x < 0; x++) {
            new Run(SEED).show(x, 50, 0).row(ROW).hide(-1);
        }
    }

    private static void everyCall(SaveUnder object, int x) {
        object.show(x, x);
        object.peek(x);
        object.hide();
        object.peek(x);
        object.show(x, -x);
    }

    // That no call throws is enough here: Answers.sentence tells what was thrown.
    private static void everyArgumentInEveryState() {
        for (int state = -1; state <= 8; state++) {
            SaveUnder object = new SaveUnder(state);
            int at = state;
            Answers.offTheRow(x -> {
                object.show(at, x);
                everyCall(object, x);
            });
            for (int x = 0; x < 8; x++) {
                object.show(at, x);
                everyCall(object, x);
            }
        }
    }

    private static void lowBits(int value, int due) {
        new Run(value).peek(0, due).show(1, 7, 4).peek(0, due);
        new Run(SEED).show(3, value, 4).peek(3, due).peek(6, due);
    }

    private static void lowBitsAreTheMask() {
        for (int bit = 0; bit < 32; bit++) {
            lowBits(1 << bit, bit < 16 ? 1 << bit : 0);
            lowBits(~(1 << bit), bit < 16 ? 65535 - (1 << bit) : 65535);
        }
    }

    private static void lowBitsAreTheCast() {
        Answers.acrossAllInts(value -> {
            SaveUnder object = new SaveUnder(value);
            Answers.due("new SaveUnder(" + value + "), peek(0)", object.peek(0), (char) value);
            object.show(7, value);
            Answers.due("show(7, " + value + "), peek(7)", object.peek(7), (char) value);
        });
    }

    private static void lowBitsOfMinusOne() {
        lowBits(-1, 65535);
    }

    private static void lowBitsOf65536() {
        lowBits(65536, 0);
    }

    public static void main(String[] args) {
        Answers.sentence("each pixel a char (a value from 0 to 65535)", RowTest::leastAndGreatestPixel);
        Answers.sentence("At most one sprite of width 4 can be drawn on the row", RowTest::oneSpriteAtMost);
        Answers.sentence("Pixel positions run from 0 to 7.", RowTest::positions);
        Answers.sentence("A sprite shown at position x covers pixels x, x+1, x+2, x+3", RowTest::cover);
        Answers.sentence("pixels beyond the end of the row are neither saved nor painted.", RowTest::beyondTheEnd);
        Answers.sentence("Pixel positions run from 0 to 7 (a sprite that would begin before the row)",
            RowTest::beforeTheStart);
        Answers.sentence("No method ever throws, whatever the arguments and whatever the state.",
            RowTest::everyArgumentInEveryState);
        Answers.sentence("means the value v & 0xFFFF, a number from 0 to 65535", RowTest::lowBitsAreTheMask);
        Answers.sentence("the same as the value of the char cast (char) v", RowTest::lowBitsAreTheCast);
        Answers.sentence("the low 16 bits of -1 are 65535", RowTest::lowBitsOfMinusOne);
        Answers.sentence("the low 16 bits of 65536 are 0", RowTest::lowBitsOf65536);
        Answers.end();
    }
}
