// Promise 4: peek answers a pixel, or -1 off the row, and changes nothing.
public final class PeekTest {
    private static void offTheRow() {
        SaveUnder object = new SaveUnder(7);
        for (int x : Answers.ODD_POSITIONS) {
            Answers.due("peek(" + x + ") without sprite", object.peek(x), -1);
        }
        object.show(5, 9);
        for (int x : Answers.ODD_POSITIONS) {
            Answers.due("peek(" + x + ") with sprite", object.peek(x), -1);
        }
    }

    private static void pixelsAreNeverNegative() {
        SaveUnder object = new SaveUnder(-1);
        Answers.dueRow("seed -1", object, 65535, 65534, 65533, 65532, 65531, 65530, 65529, 65528);
        object.show(6, -32768);
        Answers.dueRow("colour -32768", object, 65535, 65534, 65533, 65532, 65531, 65530, 32768, 32768);
    }

    private static void peekEverywhere(SaveUnder object) {
        for (int x = -10; x < 20; x++) {
            object.peek(x);
        }
        for (int x : Answers.ODD_POSITIONS) {
            object.peek(x);
        }
    }

    private static void changesNothing() {
        for (int x = 0; x < 8; x++) {
            SaveUnder object = new SaveUnder(7);
            peekEverywhere(object);
            Answers.due("hide() after peeks alone", object.hide(), -1);
            object.show(x, 9);
            peekEverywhere(object);
            for (int i = 0; i < 8; i++) {
                int want = i >= x && i <= x + 3 ? 9 : 7 * (i + 1);
                Answers.due("shown at " + x + ": peek(" + i + ")", object.peek(i), want);
            }
            Answers.due("hide() at " + x + " after peeks", object.hide(), x);
            peekEverywhere(object);
            Answers.dueRow("hidden at " + x, object, 7, 14, 21, 28, 35, 42, 49, 56);
            Answers.due("second hide() after peeks", object.hide(), -1);
        }
    }

    public static void main(String[] args) {
        offTheRow();
        pixelsAreNeverNegative();
        changesNothing();
        Answers.end();
    }
}
