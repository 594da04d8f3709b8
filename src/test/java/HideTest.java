// Promise 3: hide puts back what the sprite covered and answers its position, or answers -1.
public final class HideTest {
    private static void withoutSpriteNothingChanges() {
        SaveUnder object = new SaveUnder(3);
        for (int k = 0; k < 10; k++) {
            Answers.due("hide() number " + k, object.hide(), -1);
            Answers.dueRow("after hide() number " + k, object, 3, 6, 9, 12, 15, 18, 21, 24);
        }
    }

    private static void everyPositionIsPutBack() {
        for (int x = 0; x < 8; x++) {
            SaveUnder object = new SaveUnder(3);
            object.show(x, 1000);
            Answers.due("hide() after show(" + x + ", 1000)", object.hide(), x);
            Answers.dueRow("hidden at " + x, object, 3, 6, 9, 12, 15, 18, 21, 24);
            Answers.due("second hide() after show(" + x + ", 1000)", object.hide(), -1);
            Answers.dueRow("hidden twice at " + x, object, 3, 6, 9, 12, 15, 18, 21, 24);
        }
    }

    // What an earlier sprite left in the saved pixels must not come back with a narrower one.
    private static void narrowSpriteAfterWideOne() {
        for (int x = 5; x < 8; x++) {
            SaveUnder object = new SaveUnder(3);
            object.show(0, 1000);
            Answers.due("hide() at 0", object.hide(), 0);
            object.show(x, 2000);
            Answers.due("hide() at " + x, object.hide(), x);
            Answers.dueRow("hidden at 0, then at " + x, object, 3, 6, 9, 12, 15, 18, 21, 24);
        }
    }

    private static void showAfterHide() {
        SaveUnder object = new SaveUnder(3);
        for (int k = 0; k < 100; k++) {
            int x = (k * 3) % 8;
            object.show(x, k);
            Answers.due("hide() in round " + k, object.hide(), x);
            Answers.due("second hide() in round " + k, object.hide(), -1);
        }
        Answers.dueRow("after many rounds", object, 3, 6, 9, 12, 15, 18, 21, 24);
    }

    private static void largePixelsArePutBackWhole() {
        SaveUnder object = new SaveUnder(-1);
        object.show(4, 0);
        Answers.due("hide() on seed -1", object.hide(), 4);
        Answers.dueRow("hidden on seed -1", object, 65535, 65534, 65533, 65532, 65531, 65530, 65529, 65528);
    }

    public static void main(String[] args) {
        withoutSpriteNothingChanges();
        everyPositionIsPutBack();
        narrowSpriteAfterWideOne();
        showAfterHide();
        largePixelsArePutBackWhole();
        Answers.end();
    }
}
