import java.util.NoSuchElementException;

/** Promise 7: whole numbers are what floor, ceil and rint of the Java library answer. */
public final class RestTest {
    private static final Check CHECK = new Check();
    private static final double[] FINE = {
        0.0, Double.MIN_VALUE, 0.25, 0.49999999999999994, 0.5, 0.5000000000000001, 0.75, 0.9999999999999999, 1,
        1.0000000000000002, 1.5, 1.9999999999999998, 2, 2.5, 3.4999999999999996, 3.5, 3.9, 4.5, 7.5, 7.75, 1023.5,
        1024.5, 4503599627370495.5, 4503599627370494.5, 4503599627370496.0, 4503599627370497.0, 2251799813685247.75,
        2251799813685248.5, 9007199254740993.0, 1e300, Double.MAX_VALUE, Double.POSITIVE_INFINITY, Double.MIN_NORMAL
    };
    private static final float[] COARSE = {
        0f, Float.MIN_VALUE, 0.25f, 0.49999997f, 0.5f, 0.50000006f, 0.99999994f, 1, 1.0000001f, 1.5f, 1.9999999f,
        2, 2.5f, 3.5f, 4.5f, 7.5f, 7.75f, 8388607.5f, 8388606.5f, 8388608f, 8388609f, 4194303.75f, 1e30f,
        Float.MAX_VALUE, Float.POSITIVE_INFINITY, Float.MIN_NORMAL
    };

    public static void main(String[] args) {
        for (double number : FINE) {
            fine(number);
            fine(-number);
        }
        for (float number : COARSE) {
            coarse(number);
            coarse(-number);
        }
        limits();
        wrongOnes();
        CHECK.end();
    }

    private static double whole(double number, int way) {
        return way == 0 ? Math.floor(number) : way == 1 ? Math.ceil(number) : Math.rint(number);
    }

    private static void fine(double number) {
        NeedleBoard board = Check.freeFine();
        for (int way = 0; way <= 2; way++) {
            board.put(0, Check.fine(number));
            long due = Check.fine(whole(number, way));
            CHECK.same(number + " at rest by " + way, board.rest(0, way), due);
            CHECK.same("the value then", board.read(0, 0), due);
        }
        CHECK.same("count 4", board.count(4), 6);
    }

    private static void coarse(float number) {
        NeedleBoard board = Check.freeCoarse();
        for (int way = 0; way <= 2; way++) {
            board.put(0, Check.coarse(number));
            long due = Check.coarse((float) whole(number, way));
            CHECK.same(number + "f at rest by " + way, board.rest(0, way), due);
            CHECK.same("the value then", board.read(0, 0), due);
        }
    }

    private static void limits() {
        NeedleBoard board = Check.boardWithFine(0.25, 2.75);
        CHECK.same("a limit below", board.rest(0, 0), Check.fine(0.25));
        CHECK.same("up", board.rest(0, 1), Check.fine(1));
        board.put(0, Check.fine(2.5));
        CHECK.same("a limit above", board.rest(0, 1), Check.fine(2.75));
        CHECK.same("a limit above, nearest", board.rest(0, 2), Check.fine(2.75));
        CHECK.same("the highest", board.read(0, 3), Check.fine(2.75));
        NeedleBoard marked = Check.freeFine();
        marked.put(0, Check.fine(-1.5));
        marked.rest(0, 0);
        CHECK.same("the lowest", marked.read(0, 4), Check.fine(-2));
        CHECK.same("the greatest size", marked.read(0, 5), Check.fine(2));
    }

    private static void wrongOnes() {
        for (int way : new int[] {-1, 3, Integer.MAX_VALUE, Integer.MIN_VALUE}) {
            CHECK.refused("rest(0, " + way + ")", IllegalArgumentException.class, x -> x.rest(0, way));
            CHECK.refused("rest(2, " + way + ")", NoSuchElementException.class, x -> x.rest(2, way));
        }
        CHECK.refused("rest(-1, 0)", NoSuchElementException.class, x -> x.rest(-1, 0));
        CHECK.refused("rest(8, 0)", NoSuchElementException.class, x -> x.rest(8, 0));
    }
}
