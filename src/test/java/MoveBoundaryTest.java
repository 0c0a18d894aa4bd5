/** The boundary cases of promises 3, 4, 5 and 8, each sentence in a method of its own. */
public final class MoveBoundaryTest {
    private static final Check CHECK = new Check();
    private static final double INF = Double.POSITIVE_INFINITY;

    public static void main(String[] args) {
        CHECK.eachKind("Promise 3: The VALUE becomes a NUMBER WITHIN the LIMITS",
                MoveBoundaryTest::putWithinTheLimits);
        CHECK.eachKind("Promise 3: IllegalArgumentException: NO NUMBER", MoveBoundaryTest::putNoNumber);
        CHECK.eachKind("Promise 4: its sum with a NUMBER, WITHIN the LIMITS", MoveBoundaryTest::turnWithinTheLimits);
        CHECK.eachKind("Promise 4: IllegalArgumentException: NO NUMBER", MoveBoundaryTest::turnNoNumber);
        CHECK.eachKind("Promise 4: IllegalStateException: one is the positive infinity, the other the negative one",
                MoveBoundaryTest::turnOppositeInfinities);
        CHECK.eachKind("Promise 4: other infinities have a sum", MoveBoundaryTest::turnInfinitiesThatHaveASum);
        CHECK.eachKind("Promise 5: The STEP becomes the SIZE of a NUMBER", MoveBoundaryTest::dampToTheSize);
        CHECK.eachKind("Promise 5: IllegalArgumentException: NO NUMBER", MoveBoundaryTest::dampNoNumber);
        CHECK.eachKind("Promise 8: its SIZE with the SIDE of the VALUE of NEEDLE m (a nought)",
                MoveBoundaryTest::faceANought);
        CHECK.eachKind("Promise 8: with the SIDE of the VALUE of NEEDLE m (that is a nought)",
                MoveBoundaryTest::faceBySideOfANought);
        CHECK.eachKind("Promise 8: WITHIN the LIMITS", MoveBoundaryTest::faceWithinTheLimits);
        CHECK.eachKind("Promise 8: n may be m", MoveBoundaryTest::faceItself);
        CHECK.sentence("Promise 8: NEEDLE m may be of the other kind", MoveBoundaryTest::faceTheOtherKind);
        CHECK.end();
    }

    private static void putWithinTheLimits(boolean fine) {
        double[] put = {3, -3, 2, -2, INF, -INF, -0.0, 0.0, Check.nextUp(fine, 2), Check.nextDown(fine, -2)};
        double[] due = {2, -2, 2, -2, 2, -2, -0.0, 0.0, 2, -2};
        NeedleBoard board = Check.boardWith(fine, -2, 2);
        for (int i = 0; i < put.length; i++) {
            CHECK.same("put " + put[i], board.put(0, Check.bits(fine, put[i])), Check.bits(fine, due[i]));
            CHECK.same("the value after put " + put[i], board.read(0, 0), Check.bits(fine, due[i]));
        }
    }

    private static void putNoNumber(boolean fine) {
        for (long nan : Check.nans(fine)) {
            refused("put " + nan, x -> x.put(fine ? 0 : 1, nan));
        }
    }

    private static void refused(String what, Check.Call call) {
        CHECK.refused(what, IllegalArgumentException.class, call);
    }

    private static void turnWithinTheLimits(boolean fine) {
        NeedleBoard board = Check.boardWith(fine, -2, 2);
        double[] by = {2, 1, -4, -1, 1, INF, INF, -INF, -INF, 2, -0.0, Check.least(fine)};
        double[] due = {2, 2, -2, -2, -1, 2, 2, -2, -2, 0.0, 0.0, Check.least(fine)};
        for (int i = 0; i < by.length; i++) {
            CHECK.same("turn by " + by[i], board.turn(0, Check.bits(fine, by[i])), Check.bits(fine, due[i]));
            CHECK.same("the value after turn by " + by[i], board.read(0, 0), Check.bits(fine, due[i]));
        }
        NeedleBoard below = Check.boardWith(fine, -2, -0.0);
        below.put(0, Check.bits(fine, -1));
        CHECK.same("a sum 0.0 below a limit -0.0", below.turn(0, Check.bits(fine, 1)), Check.bits(fine, -0.0));
        NeedleBoard large = Check.boardWith(fine, 0, Check.most(fine));
        large.put(0, Check.bits(fine, Check.most(fine)));
        CHECK.same("a sum too large", large.turn(0, Check.bits(fine, Check.most(fine))),
                Check.bits(fine, Check.most(fine)));
    }

    private static void turnNoNumber(boolean fine) {
        for (long nan : Check.nans(fine)) {
            refused("turn by " + nan, x -> x.turn(fine ? 0 : 1, nan));
        }
    }

    private static void turnOppositeInfinities(boolean fine) {
        CHECK.refused("the positive one by the negative one", IllegalStateException.class,
                () -> Check.freeAt(fine, INF), x -> x.turn(0, Check.bits(fine, -INF)));
        CHECK.refused("the negative one by the positive one", IllegalStateException.class,
                () -> Check.freeAt(fine, -INF), x -> x.turn(0, Check.bits(fine, INF)));
        CHECK.refused("a needle that is nowhere else", IllegalStateException.class,
                () -> Check.boardWith(fine, INF, INF), x -> x.turn(0, Check.bits(fine, -INF)));
        if (!fine) {
            CHECK.refused("told with other upper bits", IllegalStateException.class,
                    () -> Check.freeAt(false, -INF), x -> x.turn(0, 0x77f800000L));
        }
    }

    private static void turnInfinitiesThatHaveASum(boolean fine) {
        double[][] sums = {{INF, INF, INF}, {-INF, -INF, -INF}, {INF, -Check.most(fine), INF}, {INF, -0.0, INF},
            {Check.most(fine), -INF, -INF}, {0.0, INF, INF}, {-0.0, -INF, -INF}};
        for (double[] sum : sums) {
            NeedleBoard board = Check.freeAt(fine, sum[0]);
            CHECK.same(sum[0] + " by " + sum[1], board.turn(0, Check.bits(fine, sum[1])), Check.bits(fine, sum[2]));
        }
    }

    private static void dampToTheSize(boolean fine) {
        NeedleBoard board = Check.boardWith(fine, -1, 1);
        double[] numbers = {-0.0, 0.0, 5, -5, INF, -INF, Check.least(fine), -Check.least(fine), -Check.most(fine)};
        for (double number : numbers) {
            long due = Check.bits(fine, Math.abs(number));
            CHECK.same("damp by " + number, board.damp(0, Check.bits(fine, number)), due);
            CHECK.same("the step after damp by " + number, board.read(0, 6), due);
        }
        CHECK.same("the value stays", board.read(0, 0), 0);
    }

    private static void dampNoNumber(boolean fine) {
        for (long nan : Check.nans(fine)) {
            refused("damp by " + nan, x -> x.damp(fine ? 0 : 1, nan));
        }
    }

    private static void faces(boolean fine, double one, double other, double due) {
        NeedleBoard board = Check.freePair(fine, one, other);
        CHECK.same(one + " facing as " + other, board.face(0, 1), Check.bits(fine, due));
        CHECK.same("the value then", board.read(0, 0), Check.bits(fine, due));
        CHECK.same("the other then", board.read(1, 0), Check.bits(fine, other));
    }

    private static void faceANought(boolean fine) {
        faces(fine, 0.0, -3, -0.0);
        faces(fine, -0.0, 3, 0.0);
        faces(fine, -0.0, -INF, -0.0);
        faces(fine, INF, -Check.least(fine), -INF);
        faces(fine, -INF, INF, INF);
    }

    private static void faceBySideOfANought(boolean fine) {
        faces(fine, 3, -0.0, -3);
        faces(fine, -3, 0.0, 3);
        faces(fine, 0.0, -0.0, -0.0);
        faces(fine, -0.0, 0.0, 0.0);
        faces(fine, INF, -0.0, -INF);
    }

    private static void faceWithinTheLimits(boolean fine) {
        NeedleBoard board = Check.boardWith(fine, -1, 5);
        board.needle(fine, Check.bits(fine, -0.0), Check.bits(fine, -0.0));
        board.put(0, Check.bits(fine, 4));
        CHECK.same("below the low limit", board.face(0, 1), Check.bits(fine, -1));
        NeedleBoard above = Check.boardWith(fine, -5, 1);
        above.needle(fine, 0, 0);
        above.put(0, Check.bits(fine, -4));
        CHECK.same("above the high limit", above.face(0, 1), Check.bits(fine, 1));
        NeedleBoard nought = Check.boardWith(fine, 0.0, 5);
        nought.needle(fine, Check.bits(fine, -2), Check.bits(fine, -2));
        CHECK.same("-0.0 is below a low limit 0.0", nought.face(0, 1), 0);
    }

    private static void faceItself(boolean fine) {
        for (double number : new double[] {3, -3, 0.0, -0.0, INF, -INF}) {
            NeedleBoard board = Check.freeAt(fine, number);
            CHECK.same(number + " facing as itself", board.face(0, 0), Check.bits(fine, number));
            CHECK.same("a move all the same", board.count(4), 2);
        }
    }

    private static void faceTheOtherKind() {
        NeedleBoard board = Check.freeAt(true, 3);
        board.needle(false, Check.COARSE_MINUS_INFINITY, Check.COARSE_INFINITY);
        board.put(1, Check.coarse(-0f));
        CHECK.same("a fine one as a coarse -0.0", board.face(0, 1), Check.fine(-3));
        CHECK.same("a coarse one as a fine one", board.face(1, 0), Check.coarse(-0f));
        board.put(0, Check.fine(0.0));
        CHECK.same("a coarse one as a fine 0.0", board.face(1, 0), 0);
        board.put(0, Check.fine(-0.0));
        CHECK.same("a coarse one as a fine -0.0", board.face(1, 0), Check.coarse(-0f));
    }
}
