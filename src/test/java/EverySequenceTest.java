// All promises together: every sequence of a few calls, against a model that saves nothing.
// The document's row under the sprite never changes, so the model keeps the seeded row
// as it is and lays the sprite over it only when a pixel is looked at.
public final class EverySequenceTest {
    private static final int LENGTH = 4;
    private static final int[] SEEDS = {1, -1, 0, 40000, Integer.MIN_VALUE + 3};
    private static final int[] POSITIONS = {-1, 0, 1, 2, 3, 4, 5, 6, 7, 8};
    private static final int HIDE = POSITIONS.length;
    private static final int CALLS = POSITIONS.length + 1;

    private static int modelPeek(int seed, int at, int colour, int i) {
        boolean covered = at >= 0 && i >= at && i < at + 4;
        return (covered ? colour : seed * (i + 1)) & 0xFFFF;
    }

    private static void runSequence(int seed, int code) {
        SaveUnder object = new SaveUnder(seed);
        StringBuilder told = new StringBuilder("new SaveUnder(" + seed + ")");
        int at = -1;
        int colour = 0;
        int rest = code;
        for (int step = 0; step < LENGTH; step++) {
            int call = rest % CALLS;
            rest /= CALLS;
            if (call == HIDE) {
                told.append(", hide()");
                Answers.due(told.toString(), object.hide(), at);
                at = -1;
            } else {
                int x = POSITIONS[call];
                // A colour of its own for every step, above 16 bits, tells whose paint is left.
                colour = 0x7A0B00 + step * 257;
                boolean onRow = x >= 0 && x <= 7;
                told.append(", show(" + x + ", " + colour + ")");
                Answers.due(told.toString(), object.show(x, colour), onRow ? Math.min(4, 8 - x) : 0);
                at = onRow ? x : -1;
            }
            for (int i = 0; i < 8; i++) {
                if (object.peek(i) != modelPeek(seed, at, colour, i)) {
                    Answers.due(told + ", peek(" + i + ")", object.peek(i), modelPeek(seed, at, colour, i));
                }
            }
        }
    }

    private static void everySequence() {
        int sequences = 1;
        for (int step = 0; step < LENGTH; step++) {
            sequences *= CALLS;
        }
        for (int seed : SEEDS) {
            for (int code = 0; code < sequences; code++) {
                runSequence(seed, code);
            }
        }
    }

    public static void main(String[] args) {
        Answers.sentence("every sequence of " + LENGTH + " calls", EverySequenceTest::everySequence);
        Answers.end();
    }
}
