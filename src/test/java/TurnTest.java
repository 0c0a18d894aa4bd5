import java.util.NoSuchElementException;

/** Promise 4: sums of chosen numbers, each with each, are what + answers. */
public final class TurnTest {
    private static final Check CHECK = new Check();
    private static final double[] FINE = {
        0.0, -0.0, 1, -1, 0.5, -0.5, 1.5, 0.1, -0.1, 0.3, 3, 1e16, -1e16, 4503599627370496.0, 4503599627370495.5,
        9007199254740992.0, -9007199254740991.0, 9007199254740993.0, 0x1.0p-53, -0x1.0p-53, 0x1.0p-54, 0x1.8p-53,
        0x1.0000000000001p-53, 0x1.fffffffffffffp0, -0x1.fffffffffffffp0, 0x1.fffffffffffffp-1,
        Double.MIN_VALUE, -Double.MIN_VALUE, 3 * Double.MIN_VALUE, Double.MIN_NORMAL, -Double.MIN_NORMAL,
        Double.MIN_NORMAL - Double.MIN_VALUE, Double.MIN_NORMAL + Double.MIN_VALUE, 0x1.0p-1021, -0x1.0p-1021,
        Double.MAX_VALUE, -Double.MAX_VALUE, 0x1.0p970, 0x1.0p969, 0x1.8p969, 0x1.fffffffffffffp969, -0x1.0p970,
        Double.POSITIVE_INFINITY, Double.NEGATIVE_INFINITY, 1e300, 1e-300, 1e308, -1e308
    };
    private static final float[] COARSE = {
        0f, -0f, 1, -1, 0.5f, -0.5f, 1.5f, 0.1f, -0.1f, 0.3f, 3, 16777216f, -16777215f, 8388607.5f, 8388608f,
        0x1.0p-24f, -0x1.0p-24f, 0x1.0p-25f, 0x1.8p-24f, 0x1.000002p-24f, 0x1.fffffep0f, -0x1.fffffep0f,
        Float.MIN_VALUE, -Float.MIN_VALUE, 3 * Float.MIN_VALUE, Float.MIN_NORMAL, -Float.MIN_NORMAL,
        Float.MIN_NORMAL - Float.MIN_VALUE, Float.MIN_NORMAL + Float.MIN_VALUE, 0x1.0p-125f,
        Float.MAX_VALUE, -Float.MAX_VALUE, 0x1.0p103f, 0x1.0p102f, 0x1.8p102f, 0x1.fffffep102f, -0x1.0p103f,
        Float.POSITIVE_INFINITY, Float.NEGATIVE_INFINITY, 1e30f, 1e-30f
    };

    public static void main(String[] args) {
        for (double number : FINE) {
            fineSums(number);
        }
        for (float number : COARSE) {
            coarseSums(number);
        }
        sumsWithinLimits();
        wrongOnes();
        CHECK.end();
    }

    private static void fineSums(double number) {
        NeedleBoard board = Check.freeFine();
        for (double other : FINE) {
            board.put(0, Check.fine(number));
            double sum = number + other;
            String call = number + " turned by " + other;
            if (Double.isNaN(sum)) {
                CHECK.refused(call, IllegalStateException.class, () -> board, x -> x.turn(0, Check.fine(other)));
            } else {
                CHECK.same(call, board.turn(0, Check.fine(other)), Check.fine(sum));
                CHECK.same("the value then", board.read(0, 0), Check.fine(sum));
            }
        }
    }

    private static void coarseSums(float number) {
        NeedleBoard board = Check.freeCoarse();
        for (float other : COARSE) {
            board.put(0, Check.coarse(number));
            float sum = number + other;
            String call = number + "f turned by " + other;
            if (Float.isNaN(sum)) {
                CHECK.refused(call, IllegalStateException.class, () -> board, x -> x.turn(0, Check.coarse(other)));
            } else {
                long bits = Check.coarse(other) ^ 0x4321000000000000L;
                CHECK.same(call, board.turn(0, bits), Check.coarse(sum));
            }
        }
    }

    private static void sumsWithinLimits() {
        NeedleBoard board = Check.boardWithFine(-2.5, 4);
        CHECK.same("within", board.turn(0, Check.fine(1.25)), Check.fine(1.25));
        CHECK.same("above", board.turn(0, Check.fine(3)), Check.fine(4));
        CHECK.same("below", board.turn(0, Check.MINUS_INFINITY), Check.fine(-2.5));
        CHECK.same("back above", board.turn(0, Check.INFINITY), Check.fine(4));
        CHECK.same("the highest", board.read(0, 3), Check.fine(4));
        CHECK.same("the lowest", board.read(0, 4), Check.fine(-2.5));
        CHECK.same("the greatest size", board.read(0, 5), Check.fine(4));
        CHECK.same("count 4", board.count(4), 4);
        NeedleBoard below = Check.boardWithFine(-2.5, -0.0);
        below.put(0, Check.fine(-1));
        CHECK.same("0.0 is above -0.0", below.turn(0, Check.fine(1)), Check.MINUS_NOUGHT);
    }

    private static void wrongOnes() {
        for (long nan : Check.FINE_NANS) {
            CHECK.refused("turn(0, " + nan + ")", IllegalArgumentException.class, x -> x.turn(0, nan));
        }
        for (long nan : Check.COARSE_NANS) {
            CHECK.refused("turn(1, " + nan + ")", IllegalArgumentException.class, x -> x.turn(1, nan));
        }
        for (int n : new int[] {-1, 2, 8, Integer.MIN_VALUE}) {
            CHECK.refused("turn(" + n + ", 0)", NoSuchElementException.class, x -> x.turn(n, 0));
            CHECK.refused("turn(" + n + ", NaN)", NoSuchElementException.class, x -> x.turn(n, -1));
        }
    }
}
