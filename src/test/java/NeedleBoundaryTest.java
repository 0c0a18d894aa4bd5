/** The boundary cases of promises 1 and 2, each sentence in a method of its own. */
public final class NeedleBoundaryTest {
    private static final Check CHECK = new Check();
    private static final double INF = Double.POSITIVE_INFINITY;

    public static void main(String[] args) {
        CHECK.sentence("Promise 1: No NEEDLES", NeedleBoundaryTest::emptyBoard);
        CHECK.sentence("Promise 1: both tallies are 0", NeedleBoundaryTest::talliesOfNought);
        CHECK.eachKind("Promise 2: whose VALUE is 0.0 WITHIN them", NeedleBoundaryTest::valueWithinTheLimits);
        CHECK.eachKind("Promise 2: whose STEP is the positive infinity", NeedleBoundaryTest::infiniteStep);
        CHECK.eachKind("Promise 2: low may be high", NeedleBoundaryTest::limitsAlike);
        CHECK.eachKind("Promise 2: IllegalArgumentException: low is NO NUMBER", NeedleBoundaryTest::lowIsNoNumber);
        CHECK.eachKind("Promise 2: IllegalArgumentException: high is NO NUMBER", NeedleBoundaryTest::highIsNoNumber);
        CHECK.eachKind("Promise 2: IllegalArgumentException: low is above high by ORDER",
                NeedleBoundaryTest::lowAboveHigh);
        CHECK.eachKind("Promise 2: limits in ORDER are taken", NeedleBoundaryTest::limitsNextToEachOther);
        CHECK.eachKind("Promise 2: IllegalStateException: there are 8", NeedleBoundaryTest::fullBoard);
        CHECK.end();
    }

    private static void emptyBoard() {
        NeedleBoard board = new NeedleBoard();
        for (int what = 0; what <= 4; what++) {
            CHECK.same("count " + what, board.count(what), 0);
        }
        CHECK.refused("read(0, 0)", java.util.NoSuchElementException.class, NeedleBoard::new, x -> x.read(0, 0));
        CHECK.same("the first needle", board.needle(false, 0, 0), 0);
    }

    private static void talliesOfNought() {
        for (boolean wide : new boolean[] {true, false}) {
            CHECK.same("the greater of it and -1", new NeedleBoard().tally(wide, 1, -1), 0);
            CHECK.same("the lesser of it and 1", new NeedleBoard().tally(wide, 2, 1), 0);
        }
    }

    private static void made(boolean fine, double low, double high, double due) {
        NeedleBoard board = Check.boardWith(fine, low, high);
        String limits = " between " + low + " and " + high;
        CHECK.same("the value" + limits, board.read(0, 0), Check.bits(fine, due));
        CHECK.same("the highest" + limits, board.read(0, 3), Check.bits(fine, due));
        CHECK.same("the lowest" + limits, board.read(0, 4), Check.bits(fine, due));
        CHECK.same("the greatest size" + limits, board.read(0, 5), Check.bits(fine, Math.abs(due)));
    }

    private static void valueWithinTheLimits(boolean fine) {
        double least = Check.least(fine);
        made(fine, -1, 1, 0.0);
        made(fine, least, 1, least);
        made(fine, -1, -least, -least);
        made(fine, 0.0, 1, 0.0);
        made(fine, -0.0, 1, 0.0);
        made(fine, -1, 0.0, 0.0);
        made(fine, -1, -0.0, -0.0);
        made(fine, -0.0, 0.0, 0.0);
        made(fine, INF, INF, INF);
        made(fine, -INF, -INF, -INF);
        made(fine, Check.most(fine), INF, Check.most(fine));
    }

    private static void infiniteStep(boolean fine) {
        NeedleBoard board = Check.boardWith(fine, -INF, -1);
        CHECK.same("the step", board.read(0, 6), Check.bits(fine, INF));
        CHECK.yes("so a pull comes there at once", board.pull(0, Check.bits(fine, -Check.most(fine))));
        CHECK.yes("even from there to the infinity", board.pull(0, Check.bits(fine, -INF)));
    }

    private static void limitsAlike(boolean fine) {
        for (double limit : new double[] {-2, -0.0, 0.0, 2, INF, -INF, Check.least(fine)}) {
            NeedleBoard board = Check.boardWith(fine, limit, limit);
            CHECK.same("the value at " + limit, board.read(0, 0), Check.bits(fine, limit));
            CHECK.same("put from " + limit, board.put(0, Check.bits(fine, 1)), Check.bits(fine, limit));
        }
    }

    private static void refused(boolean fine, long low, long high) {
        CHECK.refused("needle(" + fine + ", " + low + ", " + high + ")", IllegalArgumentException.class,
                x -> x.needle(fine, low, high));
    }

    private static void lowIsNoNumber(boolean fine) {
        for (long nan : Check.nans(fine)) {
            refused(fine, nan, Check.bits(fine, INF));
            refused(fine, nan, Check.bits(fine, -INF));
        }
    }

    private static void highIsNoNumber(boolean fine) {
        for (long nan : Check.nans(fine)) {
            refused(fine, Check.bits(fine, -INF), nan);
            refused(fine, Check.bits(fine, INF), nan);
        }
    }

    private static void lowAboveHigh(boolean fine) {
        double least = Check.least(fine);
        double[][] pairs = {{0.0, -0.0}, {least, 0.0}, {least, -0.0}, {0.0, -least}, {-0.0, -least}, {1, -1},
            {INF, -INF}, {INF, Check.most(fine)}, {-Check.most(fine), -INF}, {Check.nextUp(fine, 1), 1},
            {-1, Check.nextDown(fine, -1)}, {-1, -2}, {2, 1}};
        for (double[] pair : pairs) {
            refused(fine, Check.bits(fine, pair[0]), Check.bits(fine, pair[1]));
        }
    }

    private static void limitsNextToEachOther(boolean fine) {
        double least = Check.least(fine);
        double[][] pairs = {{-0.0, 0.0}, {0.0, least}, {-least, -0.0}, {1, Check.nextUp(fine, 1)},
            {Check.nextDown(fine, -1), -1}, {Check.most(fine), INF}, {-INF, -Check.most(fine)}};
        for (double[] pair : pairs) {
            NeedleBoard board = new NeedleBoard();
            CHECK.same("needle from " + pair[0] + " to " + pair[1],
                    board.needle(fine, Check.bits(fine, pair[0]), Check.bits(fine, pair[1])), 0);
        }
    }

    private static void fullBoard(boolean fine) {
        NeedleBoard board = new NeedleBoard();
        for (int n = 0; n < 8; n++) {
            CHECK.same("needle " + n, board.needle(fine, 0, 0), n);
        }
        CHECK.refused("a ninth", IllegalStateException.class, () -> board, x -> x.needle(fine, 0, 0));
        CHECK.refused("a ninth again", IllegalStateException.class, () -> board, x -> x.needle(!fine, 0, 0));
        CHECK.same("count 0", board.count(0), 8);
    }
}
