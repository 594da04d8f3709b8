// Promise 3, sentence by sentence.
public final class HideTest {
    private static final int SEED = 3;
    private static final int[] ROW = {3, 6, 9, 12, 15, 18, 21, 24};

    private static Run shownAt(int x) {
        return new Run(SEED).show(x, 1000, Run.width(x));
    }

    private static void inEveryState() {
        new Run(SEED).hide(-1);
        for (int x = 0; x < 8; x++) {
            shownAt(x).hide(x);
            shownAt(x).hide(x).hide(-1);
            shownAt(x).show(8, 1000, 0).hide(-1);
            shownAt(x).show(7 - x, 2000, Run.width(7 - x)).hide(7 - x);
        }
    }

    private static void noneOnANewObject() {
        new Run(SEED).hide(-1).row(ROW);
        new Run(-1).hide(-1).row(Run.seeded(-1));
    }

    private static void noneAfterHide() {
        for (int x = 0; x < 8; x++) {
            shownAt(x).hide(x).hide(-1).row(ROW);
        }
    }

    private static void noneAfterRefusedShow() {
        Answers.offTheRow(off -> {
            new Run(SEED).show(off, 1000, 0).hide(-1).row(ROW);
            shownAt(2).show(off, 1000, 0).hide(-1).row(ROW);
        });
    }

    private static void stillNoneShown() {
        for (int x = 0; x < 8; x++) {
            new Run(SEED).hide(-1).show(x, 1000, Run.width(x)).row(Run.painted(SEED, x, 1000));
        }
        new Run(SEED).hide(-1).show(-1, 1000, 0).row(ROW);
    }

    private static void anyNumberOfTimes() {
        Run fresh = new Run(SEED);
        Run hidden = shownAt(4).hide(4);
        for (int k = 0; k < 300; k++) {
            fresh.hide(-1);
            hidden.hide(-1);
        }
        fresh.row(ROW);
        hidden.row(ROW);
    }

    private static void paintedPixelsComeBack() {
        for (int seed : new int[] {SEED, 0, -1, 32768, 40000}) {
            for (int x = 0; x < 8; x++) {
                Run run = new Run(seed).show(x, 1000, Run.width(x)).hide(x);
                for (int i = x; i < 8 && i < x + 4; i++) {
                    run.peek(i, Run.seeded(seed)[i]);
                }
            }
        }
    }

    private static void otherPixelsStay() {
        for (int x = 0; x < 8; x++) {
            Run run = shownAt(x).hide(x);
            for (int i = 0; i < 8; i++) {
                if (i < x || i > x + 3) {
                    run.peek(i, ROW[i]);
                }
            }
        }
    }

    private static void afterwardsNoneShown() {
        for (int x = 0; x < 8; x++) {
            shownAt(x).hide(x).row(ROW).hide(-1);
            for (int next = 0; next < 8; next++) {
                shownAt(x).hide(x).show(next, 2000, Run.width(next)).row(Run.painted(SEED, next, 2000)).hide(next);
            }
        }
    }

    private static void answersThePosition() {
        shownAt(0).hide(0);
        shownAt(1).hide(1);
        shownAt(2).hide(2);
        shownAt(3).hide(3);
        shownAt(4).hide(4);
        shownAt(5).hide(5);
        shownAt(6).hide(6);
        shownAt(7).hide(7);
    }

    private static void twiceWithASprite() {
        for (int x = 0; x < 8; x++) {
            shownAt(x).hide(x).hide(-1);
        }
    }

    private static void twiceWithoutASprite() {
        new Run(SEED).hide(-1).hide(-1);
    }

    private static void secondCallChangesNothing() {
        for (int x = 0; x < 8; x++) {
            shownAt(x).hide(x).hide(-1).row(ROW).show(x, 2000, Run.width(x)).row(Run.painted(SEED, x, 2000));
        }
        new Run(SEED).hide(-1).hide(-1).row(ROW);
    }

    // Wider sprites come first: what they left in the saved pixels must not come back.
    private static void cutOffAt(int x) {
        shownAt(x).hide(x).row(ROW);
        for (int wide = 0; wide <= 4; wide++) {
            shownAt(wide).show(x, 2000, 8 - x).hide(x).row(ROW);
            shownAt(wide).hide(wide).show(x, 2000, 8 - x).hide(x).row(ROW);
        }
    }

    private static void cutOffAt5() {
        cutOffAt(5);
    }

    private static void cutOffAt6() {
        cutOffAt(6);
    }

    private static void cutOffAt7() {
        cutOffAt(7);
    }

    public static void main(String[] args) {
        Answers.sentence("int hide() never throws.", HideTest::inEveryState);
        Answers.sentence("If no sprite is shown: the answer is -1 and nothing changes (a new object)",
            HideTest::noneOnANewObject);
        Answers.sentence("If no sprite is shown: the answer is -1 and nothing changes (after hide)",
            HideTest::noneAfterHide);
        Answers.sentence("If no sprite is shown: the answer is -1 and nothing changes (after a refused show)",
            HideTest::noneAfterRefusedShow);
        Answers.sentence("every pixel keeps its value, and still no sprite is shown.", HideTest::stillNoneShown);
        Answers.sentence("Calling hide() any number of times in this state keeps answering -1.",
            HideTest::anyNumberOfTimes);
        Answers.sentence("each pixel that the sprite painted gets back the value it had just before it was painted.",
            HideTest::paintedPixelsComeBack);
        Answers.sentence("Pixels the sprite did not cover are not changed.", HideTest::otherPixelsStay);
        Answers.sentence("Afterwards no sprite is shown.", HideTest::afterwardsNoneShown);
        Answers.sentence("The answer is the position the sprite had, a value from 0 to 7.",
            HideTest::answersThePosition);
        Answers.sentence("two calls to hide() in a row with nothing in between answer the sprite's position"
            + " the first time (if one was shown) and -1 the second time", HideTest::twiceWithASprite);
        Answers.sentence("two calls to hide() in a row with nothing in between (none was shown)",
            HideTest::twiceWithoutASprite);
        Answers.sentence("the second call changes nothing.", HideTest::secondCallChangesNothing);
        Answers.sentence("A sprite shown at 5 covered only 3 pixels; hide() puts back only those and answers 5",
            HideTest::cutOffAt5);
        Answers.sentence("A sprite shown at 6 covered only 2 pixels; hide() puts back only those and answers 6",
            HideTest::cutOffAt6);
        Answers.sentence("A sprite shown at 7 covered only 1 pixel; hide() puts back only that and answers 7",
            HideTest::cutOffAt7);
        Answers.end();
    }
}
