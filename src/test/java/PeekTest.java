// Promise 4, sentence by sentence.
public final class PeekTest {
    private static final int SEED = 7;
    private static final int[] ROW = {7, 14, 21, 28, 35, 42, 49, 56};

    private static void everyPosition() {
        SaveUnder fresh = new SaveUnder(SEED);
        SaveUnder shown = new SaveUnder(SEED);
        shown.show(5, 9);
        int[] shownRow = Run.painted(SEED, 5, 9);
        Answers.acrossAllInts(x -> {
            boolean onRow = x >= 0 && x <= 7;
            Answers.due("peek(" + x + ") without sprite", fresh.peek(x), onRow ? ROW[x] : -1);
            Answers.due("peek(" + x + ") with sprite", shown.peek(x), onRow ? shownRow[x] : -1);
        });
    }

    private static void onTheRow() {
        new Run(SEED).peek(0, 7).peek(1, 14).peek(2, 21).peek(3, 28);
        new Run(SEED).peek(4, 35).peek(5, 42).peek(6, 49).peek(7, 56);
    }

    // The current value is asked for: it follows each change of the row.
    private static void currentValue() {
        new Run(SEED).row(ROW).show(3, 9, 4).row(7, 14, 21, 9, 9, 9, 9, 56).show(3, 10, 4)
            .row(7, 14, 21, 10, 10, 10, 10, 56).hide(3).row(ROW);
    }

    private static void neverNegative() {
        new Run(-1).peek(0, 65535).peek(7, 65528);
        new Run(32768).peek(0, 32768).peek(1, 0);
        new Run(0).show(0, -1, 4).peek(0, 65535).show(0, -32768, 4).peek(0, 32768).show(0, 32767, 4).peek(0, 32767);
    }

    private static void coveredPixels() {
        for (int x = 0; x < 8; x++) {
            Run run = new Run(SEED).show(x, 0x7A0B0C, Run.width(x));
            for (int i = x; i < 8 && i < x + 4; i++) {
                run.peek(i, 0x0B0C);
            }
        }
    }

    private static void otherPixels() {
        for (int x = 0; x < 8; x++) {
            Run run = new Run(SEED).show(x, 0x7A0B0C, Run.width(x));
            for (int i = 0; i < 8; i++) {
                if (i < x || i > x + 3) {
                    run.peek(i, ROW[i]);
                }
            }
        }
    }

    private static void refusedInEveryState(int off) {
        new Run(SEED).peek(off, -1);
        for (int x = 0; x < 8; x++) {
            new Run(SEED).show(x, 9, Run.width(x)).peek(off, -1).hide(x).peek(off, -1);
        }
        new Run(SEED).show(-1, 9, 0).peek(off, -1);
    }

    private static void belowTheRow() {
        for (int x : Answers.BELOW_THE_ROW) {
            refusedInEveryState(x);
        }
    }

    private static void aboveTheRow() {
        for (int x : Answers.ABOVE_THE_ROW) {
            refusedInEveryState(x);
        }
    }

    private static void leastInt() {
        refusedInEveryState(Integer.MIN_VALUE);
    }

    private static void greatestInt() {
        refusedInEveryState(Integer.MAX_VALUE);
    }

    private static void justBelow() {
        refusedInEveryState(-1);
    }

    private static void justAbove() {
        refusedInEveryState(8);
    }

    private static void peekEverywhere(SaveUnder object) {
        for (int x = -20; x < 20; x++) {
            object.peek(x);
        }
        Answers.offTheRow(object::peek);
    }

    private static void dueRow(String when, SaveUnder object, int[] row) {
        for (int i = 0; i < 8; i++) {
            Answers.due(when + ": peek(" + i + ")", object.peek(i), row[i]);
        }
    }

    private static void changesNoPixel() {
        SaveUnder object = new SaveUnder(SEED);
        peekEverywhere(object);
        dueRow("after peeks on a new object", object, ROW);
        for (int x = 0; x < 8; x++) {
            object.show(x, 9);
            peekEverywhere(object);
            dueRow("after peeks on a sprite at " + x, object, Run.painted(SEED, x, 9));
        }
    }

    private static void changesNoSavedPixel() {
        for (int x = 0; x < 8; x++) {
            SaveUnder object = new SaveUnder(SEED);
            object.show(x, 9);
            peekEverywhere(object);
            object.hide();
            dueRow("hidden at " + x + " after peeks", object, ROW);
        }
    }

    private static void changesNotWhetherShown() {
        SaveUnder object = new SaveUnder(SEED);
        peekEverywhere(object);
        Answers.due("hide() after peeks on a new object", object.hide(), -1);
        for (int x = 0; x < 8; x++) {
            object.show(x, 9);
            object.hide();
            peekEverywhere(object);
            Answers.due("second hide() after peeks, hidden at " + x, object.hide(), -1);
        }
    }

    private static void changesNotThePosition() {
        for (int x = 0; x < 8; x++) {
            SaveUnder object = new SaveUnder(SEED);
            object.show(x, 9);
            peekEverywhere(object);
            Answers.due("hide() after peeks on a sprite at " + x, object.hide(), x);
        }
    }

    // The same calls on two objects, on one of them with peeks in between.
    private static void noEffectOnLaterAnswers() {
        SaveUnder quiet = new SaveUnder(SEED);
        SaveUnder peeked = new SaveUnder(SEED);
        for (int k = 0; k < 200; k++) {
            int x = (k * 7) % 12 - 2;
            for (int times = 0; times < k % 5; times++) {
                peekEverywhere(peeked);
            }
            if (k % 3 == 2) {
                Answers.due("hide() as call " + k, peeked.hide(), quiet.hide());
            } else {
                Answers.due("show(" + x + ", " + k + ") as call " + k, peeked.show(x, k), quiet.show(x, k));
            }
        }
        Answers.due("last hide()", peeked.hide(), quiet.hide());
        dueRow("at the end", peeked, ROW);
    }

    public static void main(String[] args) {
        Answers.sentence("int peek(int x) accepts every int value of x and never throws.", PeekTest::everyPosition);
        Answers.sentence("If x is from 0 to 7", PeekTest::onTheRow);
        Answers.sentence("the answer is the current value of pixel x", PeekTest::currentValue);
        Answers.sentence("as a number from 0 to 65535.", PeekTest::neverNegative);
        Answers.sentence("While a sprite is shown, this is the low 16 bits of the colour given to show"
            + " for the pixels it covers", PeekTest::coveredPixels);
        Answers.sentence("and the row's own value for the others.", PeekTest::otherPixels);
        Answers.sentence("If x is below 0: the answer is -1.", PeekTest::belowTheRow);
        Answers.sentence("If x is above 7: the answer is -1.", PeekTest::aboveTheRow);
        Answers.sentence("This includes Integer.MIN_VALUE", PeekTest::leastInt);
        Answers.sentence("This includes Integer.MAX_VALUE", PeekTest::greatestInt);
        Answers.sentence("This includes -1", PeekTest::justBelow);
        Answers.sentence("This includes 8", PeekTest::justAbove);
        Answers.sentence("peek changes nothing: no pixel", PeekTest::changesNoPixel);
        Answers.sentence("peek changes nothing: no saved pixel", PeekTest::changesNoSavedPixel);
        Answers.sentence("peek changes nothing: not whether a sprite is shown", PeekTest::changesNotWhetherShown);
        Answers.sentence("peek changes nothing: not its position", PeekTest::changesNotThePosition);
        Answers.sentence("Any number of peek calls may be made between other calls without effect on later answers.",
            PeekTest::noEffectOnLaterAnswers);
        Answers.end();
    }
}
