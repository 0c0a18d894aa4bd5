import java.util.NoSuchElementException;

/** Promise 11: the order is that of Double.compare. */
public final class OrderTest {
    private static final double[] FINE = {
        0.0, -0.0, 1, -1, 0.1, -0.1, 0.1f, -0.1f, Math.nextUp((double) 0.1f), Math.nextDown((double) 0.1f),
        Float.MIN_VALUE, -Float.MIN_VALUE, Double.MIN_VALUE, -Double.MIN_VALUE, 3 * (double) Float.MIN_VALUE,
        Math.nextUp((double) Float.MIN_VALUE), Float.MIN_NORMAL, Float.MIN_NORMAL - (double) Float.MIN_VALUE,
        Float.MAX_VALUE, Math.nextUp((double) Float.MAX_VALUE), -Float.MAX_VALUE, Double.MAX_VALUE, -Double.MAX_VALUE,
        Double.POSITIVE_INFINITY, Double.NEGATIVE_INFINITY
    };
    private static final float[] COARSE = {
        0f, -0f, 1, -1, 0.1f, -0.1f, Float.MIN_VALUE, -Float.MIN_VALUE, 3 * Float.MIN_VALUE, Float.MIN_NORMAL,
        Float.MIN_NORMAL - Float.MIN_VALUE, Float.MAX_VALUE, -Float.MAX_VALUE, Float.POSITIVE_INFINITY,
        Float.NEGATIVE_INFINITY
    };

    public static void main(String[] args) {
        Check check = new Check();
        for (double one : FINE) {
            NeedleBoard board = newBoard();
            board.put(0, Check.fine(one));
            for (double other : FINE) {
                board.put(1, Check.fine(other));
                check.same(one + " to " + other, board.order(0, 1), Double.compare(one, other));
            }
            for (float other : COARSE) {
                board.put(2, Check.coarse(other));
                check.same(one + " to " + other + "f", board.order(0, 2), Double.compare(one, other));
                check.same(other + "f to " + one, board.order(2, 0), Double.compare(other, one));
            }
            check.same("itself", board.order(2, 2), 0);
        }
        for (float one : COARSE) {
            NeedleBoard board = newBoard();
            board.put(2, Check.coarse(one));
            for (float other : COARSE) {
                board.put(3, Check.coarse(other));
                check.same(one + "f to " + other + "f", board.order(2, 3), Float.compare(one, other));
            }
        }
        NeedleBoard board = newBoard();
        check.same("an order is no move", board.order(0, 1) + board.count(4), 0);
        for (int n : new int[] {-1, 2, 8, Integer.MIN_VALUE}) {
            check.refused("order(0, " + n + ")", NoSuchElementException.class, x -> x.order(0, n));
            check.refused("order(" + n + ", 0)", NoSuchElementException.class, x -> x.order(n, 0));
        }
        check.end();
    }

    private static NeedleBoard newBoard() {
        NeedleBoard board = new NeedleBoard();
        board.needle(true, Check.MINUS_INFINITY, Check.INFINITY);
        board.needle(true, Check.MINUS_INFINITY, Check.INFINITY);
        board.needle(false, Check.COARSE_MINUS_INFINITY, Check.COARSE_INFINITY);
        board.needle(false, Check.COARSE_MINUS_INFINITY, Check.COARSE_INFINITY);
        return board;
    }
}
