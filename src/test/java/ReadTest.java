import java.util.NoSuchElementException;

/** Promise 9. */
public final class ReadTest {
    private static final Check CHECK = new Check();

    public static void main(String[] args) {
        fineOnes();
        coarseOnes();
        units();
        wrongOnes();
        CHECK.end();
    }

    private static void readings(NeedleBoard board, long[] due) {
        for (int what = 0; what < due.length; what++) {
            CHECK.same("read(0, " + what + ")", board.read(0, what), due[what]);
        }
    }

    private static void fineOnes() {
        NeedleBoard board = Check.boardWithFine(-7, 9);
        board.put(0, Check.fine(5));
        board.put(0, Check.fine(-6));
        board.put(0, Check.fine(-2));
        board.damp(0, Check.fine(-0.5));
        readings(board, new long[] {
            Check.fine(-2), Check.fine(-7), Check.fine(9), Check.fine(5), Check.fine(-6), Check.fine(6),
            Check.fine(0.5), Check.fine(2), Check.fine(-1)
        });
    }

    private static void coarseOnes() {
        NeedleBoard board = Check.boardWithCoarse(-7, 9);
        board.put(0, Check.coarse(8));
        board.put(0, Check.coarse(-6));
        board.put(0, Check.coarse(-2));
        board.damp(0, Check.coarse(-0.5f));
        readings(board, new long[] {
            Check.coarse(-2), Check.coarse(-7), Check.coarse(9), Check.coarse(8), Check.coarse(-6), Check.coarse(8),
            Check.coarse(0.5f), Check.coarse(2), Check.coarse(-1)
        });
    }

    private static void units() {
        NeedleBoard board = Check.freeFine();
        board.needle(false, Check.COARSE_MINUS_INFINITY, Check.COARSE_INFINITY);
        float[] numbers = {0f, -0f, 1, -1, Float.MIN_VALUE, -Float.MIN_VALUE, Float.POSITIVE_INFINITY,
            Float.NEGATIVE_INFINITY, 77, -77};
        for (float number : numbers) {
            board.put(0, Check.fine(number));
            board.put(1, Check.coarse(number));
            CHECK.same("the size of " + number, board.read(0, 7), Check.fine(Math.abs((double) number)));
            CHECK.same("the coarse size of " + number, board.read(1, 7), Check.coarse(Math.abs(number)));
            CHECK.same("1 with the side of " + number, board.read(0, 8), Check.fine(Math.signum((double) number)));
            CHECK.same("coarse 1 with the side of " + number, board.read(1, 8), Check.coarse(Math.signum(number)));
        }
        CHECK.same("reading is no move", board.count(4), 2 * numbers.length);
    }

    private static void wrongOnes() {
        for (int what : new int[] {-1, 9, Integer.MAX_VALUE, Integer.MIN_VALUE}) {
            CHECK.refused("read(0, " + what + ")", IllegalArgumentException.class, x -> x.read(0, what));
            CHECK.refused("read(2, " + what + ")", NoSuchElementException.class, x -> x.read(2, what));
        }
        for (int n : new int[] {-1, 2, 7, 8, Integer.MAX_VALUE}) {
            CHECK.refused("read(" + n + ", 0)", NoSuchElementException.class, x -> x.read(n, 0));
        }
    }
}
