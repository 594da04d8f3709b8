// Promise 2: show hides the old sprite, then saves and paints what the new one covers.
public final class ShowTest {
    private static void paintsAt(int x, int count, int... row) {
        SaveUnder object = new SaveUnder(1);
        Answers.due("show(" + x + ", 99)", object.show(x, 99), count);
        Answers.dueRow("after show(" + x + ", 99)", object, row);
    }

    private static void everyPosition() {
        paintsAt(0, 4, 99, 99, 99, 99, 5, 6, 7, 8);
        paintsAt(1, 4, 1, 99, 99, 99, 99, 6, 7, 8);
        paintsAt(2, 4, 1, 2, 99, 99, 99, 99, 7, 8);
        paintsAt(3, 4, 1, 2, 3, 99, 99, 99, 99, 8);
        paintsAt(4, 4, 1, 2, 3, 4, 99, 99, 99, 99);
        paintsAt(5, 3, 1, 2, 3, 4, 5, 99, 99, 99);
        paintsAt(6, 2, 1, 2, 3, 4, 5, 6, 99, 99);
        paintsAt(7, 1, 1, 2, 3, 4, 5, 6, 7, 99);
    }

    private static void colourPaints(int colour, int paint) {
        SaveUnder object = new SaveUnder(1);
        Answers.due("show(2, " + colour + ")", object.show(2, colour), 4);
        Answers.dueRow("after show(2, " + colour + ")", object, 1, 2, paint, paint, paint, paint, 7, 8);
        Answers.due("hide() after colour " + colour, object.hide(), 2);
        Answers.dueRow("hidden after colour " + colour, object, 1, 2, 3, 4, 5, 6, 7, 8);
    }

    private static void everyColour() {
        colourPaints(0, 0);
        colourPaints(1, 1);
        colourPaints(-1, 65535);
        colourPaints(-2, 65534);
        colourPaints(255, 255);
        colourPaints(256, 256);
        colourPaints(32767, 32767);
        colourPaints(32768, 32768);
        colourPaints(65535, 65535);
        colourPaints(65536, 0);
        colourPaints(65537, 1);
        colourPaints(-65536, 0);
        colourPaints(0x12345678, 0x5678);
        colourPaints(Integer.MAX_VALUE, 65535);
        colourPaints(Integer.MIN_VALUE, 0);
    }

    private static void offTheRowWithoutSprite() {
        for (int x : Answers.ODD_POSITIONS) {
            SaveUnder object = new SaveUnder(1);
            Answers.due("show(" + x + ", 99)", object.show(x, 99), 0);
            Answers.dueRow("after show(" + x + ", 99)", object, 1, 2, 3, 4, 5, 6, 7, 8);
            Answers.due("hide() after show(" + x + ", 99)", object.hide(), -1);
        }
    }

    private static void offTheRowHidesTheSprite() {
        for (int x : Answers.ODD_POSITIONS) {
            for (int old = 0; old < 8; old++) {
                String when = "show(" + old + ", 50), show(" + x + ", 99)";
                SaveUnder object = new SaveUnder(1);
                object.show(old, 50);
                Answers.due(when, object.show(x, 99), 0);
                Answers.dueRow("after " + when, object, 1, 2, 3, 4, 5, 6, 7, 8);
                Answers.due("hide() after " + when, object.hide(), -1);
            }
        }
    }

    private static void neverSavesItsOwnPaint() {
        for (int old = 0; old < 8; old++) {
            for (int x = 0; x < 8; x++) {
                String when = "show(" + old + ", 50), show(" + x + ", 99)";
                SaveUnder object = new SaveUnder(1);
                object.show(old, 50);
                object.show(x, 99);
                for (int i = 0; i < 8; i++) {
                    int want = i >= x && i <= x + 3 ? 99 : i + 1;
                    Answers.due(when + ": peek(" + i + ")", object.peek(i), want);
                }
                Answers.due("hide() after " + when, object.hide(), x);
                Answers.dueRow("hidden after " + when, object, 1, 2, 3, 4, 5, 6, 7, 8);
            }
        }
    }

    private static void manyShowsThenOneHide() {
        SaveUnder object = new SaveUnder(-1);
        for (int k = 0; k < 1000; k++) {
            object.show((k * 5) % 11 - 1, k);
        }
        object.show(3, 7);
        Answers.due("hide() after many shows", object.hide(), 3);
        Answers.dueRow("after many shows", object, 65535, 65534, 65533, 65532, 65531, 65530, 65529, 65528);
        Answers.due("second hide() after many shows", object.hide(), -1);
    }

    private static void paintInTheColourOfTheRow() {
        SaveUnder object = new SaveUnder(0);
        Answers.due("show(0, 0) on a row of 0", object.show(0, 0), 4);
        Answers.due("hide() of a sprite that can't be seen", object.hide(), 0);
        Answers.dueRow("row of 0", object, 0, 0, 0, 0, 0, 0, 0, 0);
    }

    public static void main(String[] args) {
        everyPosition();
        everyColour();
        offTheRowWithoutSprite();
        offTheRowHidesTheSprite();
        neverSavesItsOwnPaint();
        manyShowsThenOneHide();
        paintInTheColourOfTheRow();
        Answers.end();
    }
}
