// A run of calls on a new object: each call with the answer that is due.
// A wrong answer is told with all the calls that led to it.
final class Run {
    private final SaveUnder object;
    private final StringBuilder told;

    Run(int seed) {
        told = new StringBuilder("new SaveUnder(" + seed + ")");
        object = new SaveUnder(seed);
    }

    Run show(int x, int colour, int due) {
        told.append(", show(" + x + ", " + colour + ")");
        Answers.due(told.toString(), object.show(x, colour), due);
        return this;
    }

    Run hide(int due) {
        told.append(", hide()");
        Answers.due(told.toString(), object.hide(), due);
        return this;
    }

    Run peek(int x, int due) {
        told.append(", peek(" + x + ")");
        Answers.due(told.toString(), object.peek(x), due);
        return this;
    }

    Run row(int... due) {
        for (int i = 0; i < 8; i++) {
            peek(i, due[i]);
        }
        return this;
    }

    // The row of a seed, without a sprite.
    // The low 16 bits are the same whether the product wraps at 32 bits or not,
    // so a long product is a due answer that does not repeat the program's own sum.
    static int[] seeded(int seed) {
        int[] row = new int[8];
        for (int i = 0; i < 8; i++) {
            row[i] = (int) Math.floorMod((long) seed * (i + 1), 65536L);
        }
        return row;
    }

    // The row of a seed under a sprite that shows this paint at x.
    static int[] painted(int seed, int x, int paint) {
        int[] row = seeded(seed);
        for (int i = x; i < 8 && i < x + 4; i++) {
            row[i] = paint;
        }
        return row;
    }

    static int width(int x) {
        return x <= 4 ? 4 : 8 - x;
    }
}
