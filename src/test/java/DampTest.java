import java.util.NoSuchElementException;

/** Promise 5. */
public final class DampTest {
    public static void main(String[] args) {
        Check check = new Check();
        NeedleBoard board = Check.boardWithFine(-1, 1);
        board.needle(false, Check.coarse(-1), Check.coarse(1));
        double[] fine = {2, -2, 0.0, -0.0, Double.MIN_VALUE, -Double.MAX_VALUE, Double.NEGATIVE_INFINITY};
        for (double number : fine) {
            check.same("damp by " + number, board.damp(0, Check.fine(number)), Check.fine(Math.abs(number)));
            check.same("the step then", board.read(0, 6), Check.fine(Math.abs(number)));
        }
        float[] coarse = {2, -2, 0f, -0f, -Float.MIN_VALUE, Float.MAX_VALUE, Float.NEGATIVE_INFINITY};
        for (float number : coarse) {
            long due = Check.coarse(Math.abs(number));
            check.same("damp by " + number + "f", board.damp(1, Check.coarse(number)), due);
            check.same("the coarse step then", board.read(1, 6), due);
            check.same("with other upper bits", board.damp(1, Check.coarse(number) ^ 0xabcd00000000L), due);
        }
        check.same("the value stays", board.read(0, 0), 0);
        check.same("the marks stay", board.read(0, 5), 0);
        check.same("damp is no move", board.count(4), 0);

        for (long nan : Check.FINE_NANS) {
            check.refused("damp(0, " + nan + ")", IllegalArgumentException.class, x -> x.damp(0, nan));
        }
        for (long nan : Check.COARSE_NANS) {
            check.refused("damp(1, " + nan + ")", IllegalArgumentException.class, x -> x.damp(1, nan));
        }
        for (int n : new int[] {-1, 2, 8}) {
            check.refused("damp(" + n + ", 0)", NoSuchElementException.class, x -> x.damp(n, 0));
            check.refused("damp(" + n + ", NaN)", NoSuchElementException.class, x -> x.damp(n, -1));
        }
        check.end();
    }
}
