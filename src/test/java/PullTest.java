import java.util.NoSuchElementException;

/** Promise 6. */
public final class PullTest {
    private static final Check CHECK = new Check();
    private static final double BIG = Double.MAX_VALUE;
    private static final double INF = Double.POSITIVE_INFINITY;

    public static void main(String[] args) {
        steps();
        stepsOfNought();
        infinities();
        noughts();
        limits();
        coarseOnes();
        wrongOnes();
        CHECK.end();
    }

    private static void steps() {
        fine(1, 0.75, 2, 1.75, false);
        fine(1, 0.75, -2, 0.25, false);
        fine(3, 0.5, 1, 2.5, false);
        fine(-3, 0.5, -1, -2.5, false);
        fine(1, 1, 2, 2, true);
        fine(1, 1.5, 2, 2, true);
        fine(1, 1, -0.5, 0.0, false);
        fine(1, INF, 5, 5, true);
        fine(5, 1, 5, 5, true);
        fine(0.1, 0.2, 0.3, 0.3, true);
        fine(0.3, 0.2, 0.1, 0.1, true);
        // 1.1 - 1 is a little above 0.1, so this comes there by a step.
        fine(1, 0.1, 1.1, 1.1, true);
        fine(1, 0.1, 1.2, 1.1, false);
        fine(1e16, 1, -1e16, 1e16, false);
    }

    private static void stepsOfNought() {
        fine(1, 0.0, 2, 1, false);
        fine(2, 0.0, 2, 2, true);
        // The step takes the difference's side: -0.0 + 0.0 is 0.0, and -0.0 + -0.0 is -0.0.
        fine(-0.0, 0.0, 1, 0.0, false);
        fine(-0.0, 0.0, -1, -0.0, false);
        fine(0.0, 0.0, -1, 0.0, false);
    }

    private static void infinities() {
        fine(INF, 1, INF, INF, true);
        fine(INF, 1, -INF, INF, false);
        fine(-INF, 1, INF, -INF, false);
        fine(-INF, BIG, 0, -INF, false);
        fine(INF, INF, -INF, -INF, true);
        fine(0, INF, INF, INF, true);
        fine(0, BIG, INF, BIG, false);
        fine(BIG, BIG, INF, INF, true);
        fine(BIG, INF, -BIG, -BIG, true);
        fine(BIG, BIG, -BIG, 0.0, false);
        fine(-BIG, BIG, BIG, 0.0, false);
    }

    private static void noughts() {
        fine(0.0, 0.0, -0.0, -0.0, true);
        fine(-0.0, 0.0, 0.0, 0.0, true);
        fine(-0.0, 1, 0.0, 0.0, true);
        fine(1, 1, -0.0, -0.0, true);
        fine(Double.MIN_VALUE, Double.MIN_VALUE, -0.0, -0.0, true);
        fine(2 * Double.MIN_VALUE, Double.MIN_VALUE, -0.0, Double.MIN_VALUE, false);
    }

    private static void limits() {
        NeedleBoard board = Check.boardWithFine(-2, 3);
        CHECK.no("a target above", board.pull(0, Check.fine(4)));
        CHECK.same("the value then", board.read(0, 0), Check.fine(3));
        CHECK.no("a target below", board.pull(0, Check.fine(-5)));
        CHECK.same("the value then", board.read(0, 0), Check.fine(-2));
        board.damp(0, Check.fine(1.5));
        CHECK.no("a step up", board.pull(0, Check.INFINITY));
        CHECK.same("the value then", board.read(0, 0), Check.fine(-0.5));
        board.damp(0, Check.fine(10));
        CHECK.no("a step too far", board.pull(0, Check.INFINITY));
        CHECK.same("the value then", board.read(0, 0), Check.fine(3));
        CHECK.yes("to the limit itself", board.pull(0, Check.fine(-2)));
        CHECK.same("the lowest", board.read(0, 4), Check.fine(-2));
        CHECK.same("the highest", board.read(0, 3), Check.fine(3));
        CHECK.same("the greatest size", board.read(0, 5), Check.fine(3));
        CHECK.same("the step stays", board.read(0, 6), Check.fine(10));
        CHECK.same("count 4", board.count(4), 5);
        NeedleBoard below = Check.boardWithFine(-1, -0.0);
        CHECK.yes("a nought within is alike", below.pull(0, Check.NOUGHT));
        CHECK.same("the nought then", below.read(0, 0), Check.MINUS_NOUGHT);
    }

    private static void coarseOnes() {
        coarse(1, 0.75f, 2, 1.75f, false);
        coarse(3, 0.5f, 1, 2.5f, false);
        coarse(1, 1, 2, 2, true);
        coarse(0.1f, 0.2f, 0.3f, 0.1f + 0.2f, 0.1f + 0.2f == 0.3f);
        coarse(16777216f, 1, 3e7f, 16777216f, false);
        coarse(-0f, 0f, 1, 0f, false);
        coarse(0f, 5, -0f, -0f, true);
        coarse(Float.MAX_VALUE, Float.MAX_VALUE, -Float.MAX_VALUE, 0f, false);
        coarse(Float.MAX_VALUE, Float.POSITIVE_INFINITY, -Float.MAX_VALUE, -Float.MAX_VALUE, true);
        coarse(Float.NEGATIVE_INFINITY, 3, Float.POSITIVE_INFINITY, Float.NEGATIVE_INFINITY, false);
    }

    private static void wrongOnes() {
        for (long nan : Check.FINE_NANS) {
            CHECK.refused("pull(0, " + nan + ")", IllegalArgumentException.class, x -> pulled(x, 0, nan));
        }
        for (long nan : Check.COARSE_NANS) {
            CHECK.refused("pull(1, " + nan + ")", IllegalArgumentException.class, x -> pulled(x, 1, nan));
        }
        for (int n : new int[] {-1, 2, 8}) {
            CHECK.refused("pull(" + n + ", 0)", NoSuchElementException.class, x -> pulled(x, n, 0));
            CHECK.refused("pull(" + n + ", NaN)", NoSuchElementException.class, x -> pulled(x, n, -1));
        }
    }

    private static long pulled(NeedleBoard board, int n, long bits) {
        return board.pull(n, bits) ? 1 : 0;
    }

    private static void fine(double from, double step, double target, double due, boolean there) {
        NeedleBoard board = Check.freeFine();
        board.put(0, Check.fine(from));
        board.damp(0, Check.fine(step));
        String call = from + " by " + step + " towards " + target;
        CHECK.same(call, pulled(board, 0, Check.fine(target)), there ? 1 : 0);
        CHECK.same("the value after " + call, board.read(0, 0), Check.fine(due));
    }

    private static void coarse(float from, float step, float target, float due, boolean there) {
        NeedleBoard board = Check.freeCoarse();
        board.put(0, Check.coarse(from));
        board.damp(0, Check.coarse(step));
        String call = from + "f by " + step + " towards " + target;
        CHECK.same(call, pulled(board, 0, Check.coarse(target) ^ 0x777700000000L), there ? 1 : 0);
        CHECK.same("the value after " + call, board.read(0, 0), Check.coarse(due));
    }
}
