public final class SaveUnder {
    private static final int ROW_WIDTH = 8;
    private static final int SPRITE_WIDTH = 4;
    private static final int NOWHERE = -1;

    private final char[] pixels = new char[ROW_WIDTH];
    private final char[] saved = new char[SPRITE_WIDTH];

    // NOWHERE stands for "no sprite is shown", and is also what hide() answers then.
    private int position = NOWHERE;

    public SaveUnder(int seed) {
        for (int i = 0; i < ROW_WIDTH; i++) {
            pixels[i] = (char) (seed * (i + 1));
        }
    }

    public int show(int x, int colour) {
        // The old sprite goes first, so that its paint is never saved as background.
        hide();
        if (!isOnRow(x)) {
            return 0;
        }
        int count = coveredFrom(x);
        for (int k = 0; k < count; k++) {
            saved[k] = pixels[x + k];
            pixels[x + k] = (char) colour;
        }
        position = x;
        return count;
    }

    public int hide() {
        int shownAt = position;
        if (!isOnRow(shownAt)) {
            return NOWHERE;
        }
        int count = coveredFrom(shownAt);
        for (int k = 0; k < count; k++) {
            pixels[shownAt + k] = saved[k];
        }
        position = NOWHERE;
        return shownAt;
    }

    public int peek(int x) {
        if (!isOnRow(x)) {
            return -1;
        }
        return pixels[x];
    }

    private static boolean isOnRow(int x) {
        return x >= 0 && x < ROW_WIDTH;
    }

    // For a position on the row: a sprite near the right end is cut off there.
    private static int coveredFrom(int x) {
        int room = ROW_WIDTH - x;
        return room < SPRITE_WIDTH ? room : SPRITE_WIDTH;
    }
}
