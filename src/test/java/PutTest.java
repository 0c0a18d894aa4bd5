import java.util.NoSuchElementException;

/** Promise 3. */
public final class PutTest {
    private static final Check CHECK = new Check();

    public static void main(String[] args) {
        fineOnes();
        coarseOnes();
        noughtsAsLimits();
        marks();
        wrongOnes();
        CHECK.end();
    }

    private static void fineOnes() {
        NeedleBoard board = Check.boardWithFine(-2.5, 4);
        double[] put = {1, -1, 4, 4.5, -2.5, -3, 0.0, -0.0, Double.MIN_VALUE, -Double.MIN_VALUE,
            Double.POSITIVE_INFINITY, Double.NEGATIVE_INFINITY, Double.MAX_VALUE};
        double[] due = {1, -1, 4, 4, -2.5, -2.5, 0.0, -0.0, Double.MIN_VALUE, -Double.MIN_VALUE, 4, -2.5, 4};
        for (int i = 0; i < put.length; i++) {
            CHECK.same("put " + put[i], board.put(0, Check.fine(put[i])), Check.fine(due[i]));
            CHECK.same("the value then", board.read(0, 0), Check.fine(due[i]));
        }
        CHECK.same("count 4", board.count(4), put.length);
    }

    private static void coarseOnes() {
        NeedleBoard board = Check.boardWithCoarse(-2.5f, 4);
        float[] put = {1, -1, 4.5f, -3, 0f, -0f, Float.MIN_VALUE, -Float.MIN_VALUE, Float.POSITIVE_INFINITY,
            Float.NEGATIVE_INFINITY};
        float[] due = {1, -1, 4, -2.5f, 0f, -0f, Float.MIN_VALUE, -Float.MIN_VALUE, 4, -2.5f};
        for (int i = 0; i < put.length; i++) {
            long bits = Check.coarse(put[i]);
            CHECK.same("put " + put[i], board.put(0, bits), Check.coarse(due[i]));
            CHECK.same("put " + put[i] + " with other upper bits",
                    board.put(0, bits & 0xffffffffL | 0x7654321000000000L), Check.coarse(due[i]));
        }
    }

    private static void noughtsAsLimits() {
        NeedleBoard board = Check.boardWithFine(0.0, 5);
        CHECK.same("-0.0 is below 0.0", board.put(0, Check.MINUS_NOUGHT), Check.NOUGHT);
        NeedleBoard below = Check.boardWithFine(-5, -0.0);
        CHECK.same("0.0 is above -0.0", below.put(0, Check.NOUGHT), Check.MINUS_NOUGHT);
        NeedleBoard coarse = Check.boardWithCoarse(-5, -0f);
        CHECK.same("0.0 is above -0.0, coarse", coarse.put(0, 0), Integer.MIN_VALUE);
    }

    private static void marks() {
        NeedleBoard board = Check.boardWithFine(-6, 5);
        board.put(0, Check.fine(9));
        board.put(0, Check.fine(-7));
        board.put(0, Check.fine(1));
        CHECK.same("the highest", board.read(0, 3), Check.fine(5));
        CHECK.same("the lowest", board.read(0, 4), Check.fine(-6));
        CHECK.same("the greatest size", board.read(0, 5), Check.fine(6));
        NeedleBoard noughts = Check.boardWithFine(-0.0, 0.0);
        noughts.put(0, Check.MINUS_NOUGHT);
        CHECK.same("the highest nought", noughts.read(0, 3), Check.NOUGHT);
        CHECK.same("the lowest nought", noughts.read(0, 4), Check.MINUS_NOUGHT);
        CHECK.same("the size of noughts", noughts.read(0, 5), Check.NOUGHT);
    }

    private static void wrongOnes() {
        for (long nan : Check.FINE_NANS) {
            CHECK.refused("put(0, " + nan + ")", IllegalArgumentException.class, x -> x.put(0, nan));
        }
        for (long nan : Check.COARSE_NANS) {
            CHECK.refused("put(1, " + nan + ")", IllegalArgumentException.class, x -> x.put(1, nan));
        }
        for (int n : new int[] {-1, 2, 7, 8, Integer.MAX_VALUE, Integer.MIN_VALUE}) {
            CHECK.refused("put(" + n + ", 0)", NoSuchElementException.class, x -> x.put(n, 0));
            CHECK.refused("put(" + n + ", NaN)", NoSuchElementException.class, x -> x.put(n, -1));
        }
    }
}
