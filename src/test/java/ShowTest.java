// Promise 2, sentence by sentence.
public final class ShowTest {
    private static final int SEED = 1;
    private static final int[] ROW = {1, 2, 3, 4, 5, 6, 7, 8};

    private static Run shownAt(int x) {
        return new Run(SEED).show(x, 50, Run.width(x));
    }

    private static void everyPosition() {
        SaveUnder object = new SaveUnder(SEED);
        Answers.acrossAllInts(x -> {
            boolean onRow = x >= 0 && x <= 7;
            Answers.due("show(" + x + ", 50)", object.show(x, 50), onRow ? Run.width(x) : 0);
            Answers.due("hide() after show(" + x + ", 50)", object.hide(), onRow ? x : -1);
        });
        new Run(SEED).show(Integer.MIN_VALUE, Integer.MIN_VALUE, 0).show(Integer.MAX_VALUE, Integer.MAX_VALUE, 0);
    }

    private static void everyColour() {
        SaveUnder object = new SaveUnder(SEED);
        Answers.acrossAllInts(colour -> {
            Answers.due("show(4, " + colour + ")", object.show(4, colour), 4);
            Answers.due("peek(7) after show(4, " + colour + ")", object.peek(7), Math.floorMod(colour, 65536));
            Answers.due("show(8, " + colour + ")", object.show(8, colour), 0);
            Answers.due("peek(7) after show(8, " + colour + ")", object.peek(7), 8);
        });
    }

    private static void oldSpriteIsPutBack() {
        for (int old = 0; old < 8; old++) {
            for (int x = 0; x < 8; x++) {
                Run run = shownAt(old).show(x, 99, Run.width(x));
                for (int i = old; i < 8 && i < old + 4; i++) {
                    run.peek(i, i < x || i > x + 3 ? ROW[i] : 99);
                }
            }
        }
    }

    private static void oldSpriteIsNoLongerShown() {
        for (int old = 0; old < 8; old++) {
            for (int x = 0; x < 8; x++) {
                shownAt(old).show(x, 99, Run.width(x)).hide(x).hide(-1);
            }
        }
    }

    private static void nothingToHideFirst() {
        for (int x = 0; x < 8; x++) {
            int[] due = Run.painted(SEED, x, 99);
            new Run(SEED).show(x, 99, Run.width(x)).row(due);
            new Run(SEED).show(8, 50, 0).show(x, 99, Run.width(x)).row(due);
            for (int old = 0; old < 8; old++) {
                shownAt(old).hide(old).show(x, 99, Run.width(x)).row(due);
            }
        }
    }

    // What hide() would answer here, 7, 3 or -1, is never what this show is to answer.
    private static void hidesAnswerIsDropped() {
        shownAt(7).show(0, 99, 4);
        shownAt(3).show(7, 99, 1);
        shownAt(7).show(-1, 99, 0);
        new Run(SEED).show(0, 99, 4);
        new Run(SEED).show(8, 99, 0);
    }

    private static void belowTheRow() {
        for (int x : Answers.BELOW_THE_ROW) {
            new Run(SEED).show(x, 99, 0).row(ROW);
        }
    }

    private static void aboveTheRow() {
        for (int x : Answers.ABOVE_THE_ROW) {
            new Run(SEED).show(x, 99, 0).row(ROW);
        }
    }

    private static void noSpriteAfterRefusal() {
        Answers.offTheRow(x -> {
            new Run(SEED).show(x, 99, 0).hide(-1).row(ROW);
            new Run(SEED).show(x, 99, 0).show(2, 50, 4).row(Run.painted(SEED, 2, 50)).hide(2);
        });
    }

    private static void refusalStillPutsBack() {
        Answers.offTheRow(x -> {
            for (int old = 0; old < 8; old++) {
                shownAt(old).show(x, 99, 0).row(ROW);
            }
        });
    }

    private static void refusalStillHides() {
        Answers.offTheRow(x -> {
            for (int old = 0; old < 8; old++) {
                shownAt(old).show(x, 99, 0).hide(-1);
            }
        });
    }

    private static void coveredPixelsAreSaved() {
        for (int seed : new int[] {SEED, 0, -1, 32768, 40000}) {
            for (int x = 0; x < 8; x++) {
                new Run(seed).show(x, 99, Run.width(x)).hide(x).row(Run.seeded(seed));
            }
        }
    }

    private static void positionIsKept() {
        for (int x = 0; x < 8; x++) {
            shownAt(x).hide(x);
        }
        Run run = new Run(SEED);
        for (int x = 7; x >= 0; x--) {
            run.show(x, 99, Run.width(x));
        }
        run.hide(0);
    }

    private static void answerIsTheNumberPainted() {
        for (int x = 0; x < 8; x++) {
            SaveUnder object = new SaveUnder(SEED);
            int answer = object.show(x, 99);
            int count = 0;
            for (int i = 0; i < 8; i++) {
                count += object.peek(i) == 99 ? 1 : 0;
            }
            Answers.due("show(" + x + ", 99)", answer, count);
            if (answer < 1 || answer > 4) {
                Answers.fail("show(" + x + ", 99) answered " + answer + ", due is from 1 to 4");
            }
        }
        // Pixels that have the colour already are painted all the same.
        new Run(0).show(0, 0, 4).hide(0).show(6, 0, 2).hide(6);
    }

    private static void from0To4() {
        new Run(SEED).show(0, 99, 4).row(99, 99, 99, 99, 5, 6, 7, 8);
        new Run(SEED).show(1, 99, 4).row(1, 99, 99, 99, 99, 6, 7, 8);
        new Run(SEED).show(2, 99, 4).row(1, 2, 99, 99, 99, 99, 7, 8);
        new Run(SEED).show(3, 99, 4).row(1, 2, 3, 99, 99, 99, 99, 8);
        new Run(SEED).show(4, 99, 4).row(1, 2, 3, 4, 99, 99, 99, 99);
    }

    private static void at5() {
        new Run(SEED).show(5, 99, 3).row(1, 2, 3, 4, 5, 99, 99, 99);
    }

    private static void at6() {
        new Run(SEED).show(6, 99, 2).row(1, 2, 3, 4, 5, 6, 99, 99);
    }

    private static void at7() {
        new Run(SEED).show(7, 99, 1).row(1, 2, 3, 4, 5, 6, 7, 99);
    }

    private static void otherPixelsStay() {
        for (int x = 0; x < 8; x++) {
            for (int old = 0; old < 8; old++) {
                Run fresh = new Run(SEED).show(x, 99, Run.width(x));
                Run moved = shownAt(old).show(x, 99, Run.width(x));
                for (int i = 0; i < 8; i++) {
                    if (i < x || i > x + 3) {
                        fresh.peek(i, ROW[i]);
                        moved.peek(i, ROW[i]);
                    }
                }
            }
        }
    }

    private static void colourPaints(int colour, int paint) {
        new Run(SEED).show(2, colour, 4).row(1, 2, paint, paint, paint, paint, 7, 8).hide(2).row(ROW);
        new Run(SEED).show(7, colour, 1).row(1, 2, 3, 4, 5, 6, 7, paint).hide(7).row(ROW);
    }

    private static void lowBitsOfColour() {
        colourPaints(0, 0);
        colourPaints(1, 1);
        colourPaints(-2, 65534);
        colourPaints(255, 255);
        colourPaints(256, 256);
        colourPaints(32767, 32767);
        colourPaints(32768, 32768);
        colourPaints(-32768, 32768);
        colourPaints(65535, 65535);
        colourPaints(65537, 1);
        colourPaints(-65536, 0);
        colourPaints(-65537, 65535);
        colourPaints(0x12345678, 0x5678);
        colourPaints(Integer.MAX_VALUE, 65535);
        colourPaints(Integer.MIN_VALUE, 0);
    }

    private static void colourMinusOne() {
        colourPaints(-1, 65535);
    }

    private static void colour65536() {
        colourPaints(65536, 0);
    }

    private static void savedIsTheRowWithoutSprite() {
        for (int old = 0; old < 8; old++) {
            for (int x = 0; x < 8; x++) {
                shownAt(old).show(x, 99, Run.width(x)).hide(x).row(ROW);
            }
        }
    }

    private static void again(int x, int colour, int nextX, int nextColour) {
        new Run(SEED).show(x, colour, Run.width(x)).show(nextX, nextColour, Run.width(nextX))
            .row(Run.painted(SEED, nextX, nextColour)).hide(nextX).row(ROW).hide(-1);
    }

    private static void samePositionSameColour() {
        for (int x = 0; x < 8; x++) {
            again(x, 50, x, 50);
        }
    }

    private static void samePositionOtherColour() {
        for (int x = 0; x < 8; x++) {
            again(x, 50, x, 99);
        }
    }

    private static void otherPositionSameColour() {
        for (int x = 0; x < 8; x++) {
            for (int away = 1; away < 8; away++) {
                again(x, 50, (x + away) % 8, 50);
            }
        }
    }

    private static void otherPositionOtherColour() {
        for (int x = 0; x < 8; x++) {
            for (int away = 1; away < 8; away++) {
                again(x, 50, (x + away) % 8, 99);
            }
        }
    }

    private static void manyShowsThenOneHide() {
        for (int first = 0; first < 11; first++) {
            Run run = new Run(-1).show(4, 8, 4).hide(4);
            for (int k = 0; k < 60; k++) {
                int x = (first + k * 5) % 11 - 2;
                boolean onRow = x >= 0 && x <= 7;
                run.show(x, k * 1001, onRow ? Run.width(x) : 0);
            }
            run.show(3, 7, 4).hide(3).row(Run.seeded(-1)).hide(-1);
        }
    }

    private static void lastShowRefused() {
        shownAt(1).show(3, 99, 4).show(6, 77, 2).show(8, 66, 0).hide(-1).row(ROW);
    }

    private static void otherObjectsStay() {
        Run one = new Run(1);
        Run two = new Run(2).show(1, 77, 4);
        one.show(0, 99, 4).show(5, 98, 3);
        two.row(2, 77, 77, 77, 77, 12, 14, 16).hide(1).row(2, 4, 6, 8, 10, 12, 14, 16);
        one.row(1, 2, 3, 4, 5, 98, 98, 98).hide(5).row(ROW);
        two.hide(-1);
    }

    private static void theTwoSteps() {
        Answers.sentence("accepts every int value of x and never throws.", ShowTest::everyPosition);
        Answers.sentence("accepts every int value of colour and never throws.", ShowTest::everyColour);
        Answers.sentence("if a sprite was shown, its saved pixels are put back", ShowTest::oldSpriteIsPutBack);
        Answers.sentence("and it is no longer shown", ShowTest::oldSpriteIsNoLongerShown);
        Answers.sentence("if no sprite was shown, nothing changes in this step.", ShowTest::nothingToHideFirst);
        Answers.sentence("and drops that call's answer.", ShowTest::hidesAnswerIsDropped);
    }

    private static void refusals() {
        Answers.sentence("If x is below 0: nothing is painted, no pixel changes. The answer is 0.",
            ShowTest::belowTheRow);
        Answers.sentence("If x is above 7: nothing is painted, no pixel changes. The answer is 0.",
            ShowTest::aboveTheRow);
        Answers.sentence("and afterwards no sprite is shown.", ShowTest::noSpriteAfterRefusal);
        Answers.sentence("step 1 has still taken place: its pixels restored.", ShowTest::refusalStillPutsBack);
        Answers.sentence("step 1 has still taken place: a sprite that was shown before the call has been hidden",
            ShowTest::refusalStillHides);
    }

    private static void painting() {
        Answers.sentence("its current value (the value after step 1) is saved", ShowTest::coveredPixelsAreSaved);
        Answers.sentence("The saved position becomes x, and a sprite is now shown at position x.",
            ShowTest::positionIsKept);
        Answers.sentence("The answer is the number of pixels painted, which is from 1 to 4",
            ShowTest::answerIsTheNumberPainted);
        Answers.sentence("x from 0 to 4: 4 pixels are painted, answer 4", ShowTest::from0To4);
        Answers.sentence("x = 5: pixels 5, 6, 7 are painted, answer 3", ShowTest::at5);
        Answers.sentence("x = 6: pixels 6, 7 are painted, answer 2", ShowTest::at6);
        Answers.sentence("x = 7: pixel 7 is painted, answer 1", ShowTest::at7);
        Answers.sentence("Pixels outside the painted range keep the values they had after step 1.",
            ShowTest::otherPixelsStay);
        Answers.sentence("colour may be any int; only its low 16 bits are used", ShowTest::lowBitsOfColour);
        Answers.sentence("a colour of -1 paints 65535", ShowTest::colourMinusOne);
        Answers.sentence("a colour of 65536 paints 0", ShowTest::colour65536);
    }

    private static void showingAgain() {
        Answers.sentence("what is saved in step 2 is always the row as it would be with no sprite shown.",
            ShowTest::savedIsTheRowWithoutSprite);
        Answers.sentence("Showing the sprite again (at the same position, with the same colour)",
            ShowTest::samePositionSameColour);
        Answers.sentence("Showing the sprite again (at the same position, with a different colour)",
            ShowTest::samePositionOtherColour);
        Answers.sentence("Showing the sprite again (at a different position, with the same colour)",
            ShowTest::otherPositionSameColour);
        Answers.sentence("Showing the sprite again (at a different position, with a different colour)",
            ShowTest::otherPositionOtherColour);
        Answers.sentence("after any sequence of show calls followed by one hide(), the row is exactly as it was before",
            ShowTest::manyShowsThenOneHide);
        Answers.sentence("after any sequence of show calls (the last one refused) followed by one hide()",
            ShowTest::lastShowRefused);
        Answers.sentence("A call of show never changes anything other than the pixels and the sprite state",
            ShowTest::otherObjectsStay);
    }

    public static void main(String[] args) {
        theTwoSteps();
        refusals();
        painting();
        showingAgain();
        Answers.end();
    }
}
