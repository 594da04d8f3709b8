// Promise 1, sentence by sentence.
public final class ConstructionTest {
    private static void everySeed() {
        Answers.acrossAllInts(seed -> {
            SaveUnder object = new SaveUnder(seed);
            int[] row = Run.seeded(seed);
            for (int i = 0; i < 8; i++) {
                if (object.peek(i) != row[i]) {
                    Answers.due("new SaveUnder(" + seed + "), peek(" + i + ")", object.peek(i), row[i]);
                }
            }
        });
    }

    private static void seedsAtTheEnds() {
        new Run(0).row(0, 0, 0, 0, 0, 0, 0, 0);
        new Run(-3).row(65533, 65530, 65527, 65524, 65521, 65518, 65515, 65512);
        new Run(Integer.MIN_VALUE).row(0, 0, 0, 0, 0, 0, 0, 0);
        new Run(Integer.MIN_VALUE + 1).row(1, 2, 3, 4, 5, 6, 7, 8);
        new Run(Integer.MAX_VALUE).row(65535, 65534, 65533, 65532, 65531, 65530, 65529, 65528);
    }

    // No product here leaves int: what is cut off is cut off by the 16 bits alone.
    private static void lowBitsOfTheProduct() {
        new Run(8191).row(8191, 16382, 24573, 32764, 40955, 49146, 57337, 65528);
        new Run(8192).row(8192, 16384, 24576, 32768, 40960, 49152, 57344, 0);
        new Run(32768).row(32768, 0, 32768, 0, 32768, 0, 32768, 0);
        new Run(40000).row(40000, 14464, 54464, 28928, 3392, 43392, 17856, 57856);
        new Run(65535).row(65535, 65534, 65533, 65532, 65531, 65530, 65529, 65528);
        new Run(65537).row(1, 2, 3, 4, 5, 6, 7, 8);
        new Run(-65537).row(65535, 65534, 65533, 65532, 65531, 65530, 65529, 65528);
    }

    // A product that stopped at the greatest int would leave 65535, one at the least int 0.
    private static void productsWrapAround() {
        new Run(0x0FFFFFFF).row(65535, 65534, 65533, 65532, 65531, 65530, 65529, 65528);
        new Run(0x10000003).row(3, 6, 9, 12, 15, 18, 21, 24);
        new Run(0x2AAAAAAB).row(0xAAAB, 0x5556, 1, 0xAAAC, 0x5557, 2, 0xAAAD, 0x5558);
        new Run(0x40000001).row(1, 2, 3, 4, 5, 6, 7, 8);
        new Run(-0x40000001).row(65535, 65534, 65533, 65532, 65531, 65530, 65529, 65528);
        new Run(0x7FFF0005).row(5, 10, 15, 20, 25, 30, 35, 40);
    }

    private static void seedOne() {
        new Run(1).row(1, 2, 3, 4, 5, 6, 7, 8);
    }

    private static void seedMinusOne() {
        new Run(-1).row(65535, 65534, 65533, 65532, 65531, 65530, 65529, 65528);
    }

    private static void seedZero() {
        new Run(0).row(0, 0, 0, 0, 0, 0, 0, 0);
    }

    private static void seed65536() {
        new Run(65536).row(0, 0, 0, 0, 0, 0, 0, 0);
    }

    // A sprite that was there from the start would be put back by the first show,
    // with saved pixels that nobody saved.
    private static void noSpriteIsShown() {
        for (int x = 0; x < 8; x++) {
            new Run(9).show(x, 1000, Run.width(x)).row(Run.painted(9, x, 1000));
        }
        new Run(9).show(-1, 1000, 0).row(9, 18, 27, 36, 45, 54, 63, 72);
    }

    private static void firstHide() {
        for (int seed : new int[] {9, 0, -1, Integer.MIN_VALUE, Integer.MAX_VALUE}) {
            new Run(seed).hide(-1).row(Run.seeded(seed)).hide(-1);
            new Run(seed).hide(-1).show(6, 1000, 2).row(Run.painted(seed, 6, 1000)).hide(6);
        }
    }

    public static void main(String[] args) {
        Answers.sentence("new SaveUnder(seed) accepts every int value of seed", ConstructionTest::everySeed);
        Answers.sentence("including 0, negative values, Integer.MIN_VALUE and Integer.MAX_VALUE",
            ConstructionTest::seedsAtTheEnds);
        Answers.sentence("pixel i is the low 16 bits of the int product seed * (i + 1)",
            ConstructionTest::lowBitsOfTheProduct);
        Answers.sentence("wrapping around on overflow", ConstructionTest::productsWrapAround);
        Answers.sentence("with seed = 1 the pixels are 1, 2, 3, 4, 5, 6, 7, 8", ConstructionTest::seedOne);
        Answers.sentence("with seed = -1 they are 65535, 65534, 65533, 65532, 65531, 65530, 65529, 65528",
            ConstructionTest::seedMinusOne);
        Answers.sentence("with seed = 0 all pixels are 0", ConstructionTest::seedZero);
        Answers.sentence("with seed = 65536 all pixels are 0", ConstructionTest::seed65536);
        Answers.sentence("No sprite is shown.", ConstructionTest::noSpriteIsShown);
        Answers.sentence("A first call to hide() therefore answers -1 and changes nothing.",
            ConstructionTest::firstHide);
        Answers.end();
    }
}
