import java.util.NoSuchElementException;

/** Promise 10. */
public final class BetweenTest {
    private static final Check CHECK = new Check();

    public static void main(String[] args) {
        float[] numbers = {0f, -0f, 1, -1, 2.5f, -2.5f, Float.MIN_VALUE, -Float.MIN_VALUE, Float.MAX_VALUE,
            Float.POSITIVE_INFINITY, Float.NEGATIVE_INFINITY};
        for (float one : numbers) {
            for (float other : numbers) {
                fine(one, other);
                coarse(one, other);
            }
        }
        wrongOnes();
        CHECK.end();
    }

    private static void fine(double one, double other) {
        NeedleBoard board = Check.freeFine();
        board.needle(true, Check.MINUS_INFINITY, Check.INFINITY);
        board.put(0, Check.fine(one));
        board.put(1, Check.fine(other));
        double[] due = {Math.min(one, other), Math.max(one, other), Math.min(Math.abs(one), Math.abs(other)),
            Math.max(Math.abs(one), Math.abs(other))};
        for (int what = 0; what < due.length; what++) {
            CHECK.same("of " + one + " and " + other + " " + what, board.between(0, 1, what), Check.fine(due[what]));
        }
        CHECK.same("of one with itself", board.between(1, 1, 1), Check.fine(other));
        CHECK.same("count 4", board.count(4), 2);
    }

    private static void coarse(float one, float other) {
        NeedleBoard board = Check.freeCoarse();
        board.needle(false, Check.COARSE_MINUS_INFINITY, Check.COARSE_INFINITY);
        board.put(0, Check.coarse(one));
        board.put(1, Check.coarse(other));
        float[] due = {Math.min(one, other), Math.max(one, other), Math.min(Math.abs(one), Math.abs(other)),
            Math.max(Math.abs(one), Math.abs(other))};
        for (int what = 0; what < due.length; what++) {
            CHECK.same("of " + one + "f and " + other + " " + what, board.between(0, 1, what),
                    Check.coarse(due[what]));
        }
    }

    private static void wrongOnes() {
        for (int what = -1; what <= 4; what++) {
            int asked = what;
            CHECK.refused("between(0, 1, " + what + ")", IllegalArgumentException.class,
                    x -> x.between(0, 1, asked));
            CHECK.refused("between(1, 0, " + what + ")", IllegalArgumentException.class,
                    x -> x.between(1, 0, asked));
            CHECK.refused("between(0, 2, " + what + ")", NoSuchElementException.class,
                    x -> x.between(0, 2, asked));
            CHECK.refused("between(-1, 0, " + what + ")", NoSuchElementException.class,
                    x -> x.between(-1, 0, asked));
        }
        for (int what : new int[] {-1, 4, Integer.MAX_VALUE, Integer.MIN_VALUE}) {
            CHECK.refused("between(0, 0, " + what + ")", IllegalArgumentException.class,
                    x -> x.between(0, 0, what));
        }
    }
}
