/** The boundary cases of promises 6 and 7, each sentence in a method of its own. */
public final class PullRestBoundaryTest {
    private static final Check CHECK = new Check();
    private static final double INF = Double.POSITIVE_INFINITY;

    public static void main(String[] args) {
        CHECK.eachKind("Promise 6: if both are alike by == it becomes T (noughts)",
                PullRestBoundaryTest::alikeNoughts);
        CHECK.eachKind("Promise 6: if both are alike by == it becomes T (infinities)",
                PullRestBoundaryTest::alikeInfinities);
        CHECK.eachKind("Promise 6: the SIZE of the difference is not above the STEP",
                PullRestBoundaryTest::differenceNotAboveTheStep);
        CHECK.eachKind("Promise 6: else its sum with the STEP that has the SIDE of that difference",
                PullRestBoundaryTest::differenceAboveTheStep);
        CHECK.eachKind("Promise 6: a STEP of 0.0", PullRestBoundaryTest::stepOfNought);
        CHECK.eachKind("Promise 6: an infinite STEP", PullRestBoundaryTest::infiniteStep);
        CHECK.eachKind("Promise 6: a difference that is too large", PullRestBoundaryTest::differenceTooLarge);
        CHECK.eachKind("Promise 6: an infinite VALUE", PullRestBoundaryTest::infiniteValue);
        CHECK.eachKind("Promise 6: either WITHIN the LIMITS", PullRestBoundaryTest::pullWithinTheLimits);
        CHECK.eachKind("Promise 6: Whether VALUE and T are alike by == then", PullRestBoundaryTest::alikeThen);
        CHECK.eachKind("Promise 6: IllegalArgumentException: NO NUMBER", PullRestBoundaryTest::pullNoNumber);
        CHECK.eachKind("Promise 7: by way 0 the greatest that is not above it", PullRestBoundaryTest::restDown);
        CHECK.eachKind("Promise 7: by 1 the least that is not below it", PullRestBoundaryTest::restUp);
        CHECK.eachKind("Promise 7: by 2 the nearest", PullRestBoundaryTest::restNearest);
        CHECK.eachKind("Promise 7: of two the even one", PullRestBoundaryTest::evenOfTwo);
        CHECK.eachKind("Promise 7: infinities and noughts are whole", PullRestBoundaryTest::wholeOnesStay);
        CHECK.eachKind("Promise 7: A nought that comes so has the SIDE of the VALUE",
                PullRestBoundaryTest::sideOfANought);
        CHECK.eachKind("Promise 7: a whole one WITHIN the LIMITS", PullRestBoundaryTest::restWithinTheLimits);
        CHECK.eachKind("Promise 7: IllegalArgumentException: another way", PullRestBoundaryTest::anotherWay);
        CHECK.end();
    }

    private static void pulls(boolean fine, double from, double step, double target, double due, boolean there) {
        NeedleBoard board = Check.freeAt(fine, from);
        board.damp(0, Check.bits(fine, step));
        String call = from + " by " + step + " towards " + target;
        CHECK.same(call, board.pull(0, Check.bits(fine, target)) ? 1 : 0, there ? 1 : 0);
        CHECK.same("the value after " + call, board.read(0, 0), Check.bits(fine, due));
        CHECK.same("the step after " + call, board.read(0, 6), Check.bits(fine, step));
    }

    private static void alikeNoughts(boolean fine) {
        for (double step : new double[] {0.0, 1, INF}) {
            pulls(fine, 0.0, step, -0.0, -0.0, true);
            pulls(fine, -0.0, step, 0.0, 0.0, true);
            pulls(fine, -0.0, step, -0.0, -0.0, true);
        }
    }

    private static void alikeInfinities(boolean fine) {
        for (double step : new double[] {0.0, 1, Check.most(fine), INF}) {
            pulls(fine, INF, step, INF, INF, true);
            pulls(fine, -INF, step, -INF, -INF, true);
        }
    }

    private static void differenceNotAboveTheStep(boolean fine) {
        double least = Check.least(fine);
        pulls(fine, 1, 2, 3, 3, true);
        pulls(fine, 3, 2, 1, 1, true);
        pulls(fine, -1, 2, 1, 1, true);
        pulls(fine, 1, Check.nextUp(fine, 2), 3, 3, true);
        pulls(fine, 0.0, least, least, least, true);
        pulls(fine, least, least, -0.0, -0.0, true);
        pulls(fine, least, 2 * least, -least, -least, true);
        pulls(fine, 0.0, Check.most(fine), -Check.most(fine), -Check.most(fine), true);
    }

    private static void differenceAboveTheStep(boolean fine) {
        double less = Check.nextDown(fine, 2);
        double least = Check.least(fine);
        pulls(fine, 1, less, 4, fine ? 1 + less : (float) 1 + (float) less, false);
        pulls(fine, 0, less, 2, less, false);
        pulls(fine, 0, less, -2, -less, false);
        pulls(fine, 5, 1.5, 2, 3.5, false);
        pulls(fine, -5, 1.5, -2, -3.5, false);
        pulls(fine, 2 * least, least, 0.0, least, false);
        // A step that is too small to be seen beside the value.
        pulls(fine, 1, least, 2, 1, false);
        // The sum is rounded to the target though the difference was above the step.
        pulls(fine, 1, Check.nextDown(fine, Check.nextUp(fine, 1) - 1), Check.nextUp(fine, 1),
                Check.nextUp(fine, 1), true);
    }

    private static void stepOfNought(boolean fine) {
        pulls(fine, 1, 0.0, 2, 1, false);
        pulls(fine, 1, 0.0, 1, 1, true);
        pulls(fine, -0.0, 0.0, 1, 0.0, false);
        pulls(fine, -0.0, 0.0, -1, -0.0, false);
        pulls(fine, 0.0, 0.0, -1, 0.0, false);
        pulls(fine, 0.0, 0.0, Check.least(fine), 0.0, false);
    }

    private static void infiniteStep(boolean fine) {
        pulls(fine, 1, INF, -7, -7, true);
        pulls(fine, 1, INF, INF, INF, true);
        pulls(fine, INF, INF, -INF, -INF, true);
        pulls(fine, -INF, INF, -0.0, -0.0, true);
        pulls(fine, Check.most(fine), INF, -Check.most(fine), -Check.most(fine), true);
    }

    private static void differenceTooLarge(boolean fine) {
        double most = Check.most(fine);
        pulls(fine, most, most, -most, 0.0, false);
        pulls(fine, -most, most, most, 0.0, false);
        pulls(fine, -most, 1, most, -most, false);
        pulls(fine, most, most, INF, INF, true);
        pulls(fine, -most, most, -INF, -INF, true);
        pulls(fine, 0.0, most, INF, most, false);
    }

    private static void infiniteValue(boolean fine) {
        double most = Check.most(fine);
        pulls(fine, INF, most, -INF, INF, false);
        pulls(fine, -INF, most, INF, -INF, false);
        pulls(fine, INF, most, 0.0, INF, false);
        pulls(fine, -INF, 0.0, most, -INF, false);
    }

    private static void pullWithinTheLimits(boolean fine) {
        NeedleBoard board = Check.boardWith(fine, -2, 3);
        CHECK.no("T above the high limit", board.pull(0, Check.bits(fine, Check.nextUp(fine, 3))));
        CHECK.same("the value then", board.read(0, 0), Check.bits(fine, 3));
        CHECK.no("T below the low limit", board.pull(0, Check.bits(fine, -INF)));
        CHECK.same("the value then", board.read(0, 0), Check.bits(fine, -2));
        board.damp(0, Check.bits(fine, 6));
        CHECK.no("a step above the high limit", board.pull(0, Check.bits(fine, 7)));
        CHECK.same("the value then", board.read(0, 0), Check.bits(fine, 3));
        CHECK.no("a step below the low limit", board.pull(0, Check.bits(fine, -7)));
        CHECK.same("the value then", board.read(0, 0), Check.bits(fine, -2));
        CHECK.yes("T at the high limit", board.pull(0, Check.bits(fine, 3)));
        CHECK.yes("T at the low limit", board.pull(0, Check.bits(fine, -2)));
        NeedleBoard large = Check.boardWith(fine, 0, Check.most(fine));
        large.put(0, Check.bits(fine, Check.most(fine)));
        large.damp(0, Check.bits(fine, Check.most(fine)));
        CHECK.no("a sum that is too large", large.pull(0, Check.bits(fine, INF)));
        CHECK.same("the value then", large.read(0, 0), Check.bits(fine, Check.most(fine)));
    }

    private static void alikeThen(boolean fine) {
        NeedleBoard below = Check.boardWith(fine, -1, -0.0);
        CHECK.yes("0.0 is like a limit -0.0", below.pull(0, 0));
        CHECK.same("which the value is", below.read(0, 0), Check.bits(fine, -0.0));
        NeedleBoard above = Check.boardWith(fine, 0.0, 1);
        CHECK.yes("-0.0 is like a limit 0.0", above.pull(0, Check.bits(fine, -0.0)));
        CHECK.same("which the value is", above.read(0, 0), 0);
        CHECK.no("the least number is not", above.pull(0, Check.bits(fine, -Check.least(fine))));
        pulls(fine, Check.nextDown(fine, 1), 0.0, 1, Check.nextDown(fine, 1), false);
    }

    private static void pullNoNumber(boolean fine) {
        for (long nan : Check.nans(fine)) {
            CHECK.refused("pull to " + nan, IllegalArgumentException.class,
                    x -> x.pull(fine ? 0 : 1, nan) ? 1 : 0);
        }
    }

    private static void rests(boolean fine, double from, int way, double due) {
        NeedleBoard board = Check.freeAt(fine, from);
        CHECK.same(from + " at rest by " + way, board.rest(0, way), Check.bits(fine, due));
        CHECK.same("the value then", board.read(0, 0), Check.bits(fine, due));
    }

    /** The number from which on all numbers of the kind are whole. */
    private static double wholeFrom(boolean fine) {
        return fine ? 0x1.0p52 : 0x1.0p23;
    }

    private static void restDown(boolean fine) {
        double all = wholeFrom(fine);
        rests(fine, Check.least(fine), 0, 0.0);
        rests(fine, -Check.least(fine), 0, -1);
        rests(fine, Check.nextDown(fine, 1), 0, 0.0);
        rests(fine, Check.nextUp(fine, 1), 0, 1);
        rests(fine, Check.nextDown(fine, -1), 0, -2);
        rests(fine, Check.nextUp(fine, -1), 0, -1);
        rests(fine, 1.5, 0, 1);
        rests(fine, -1.5, 0, -2);
        rests(fine, all - 0.5, 0, all - 1);
        rests(fine, 0.5 - all, 0, -all);
    }

    private static void restUp(boolean fine) {
        double all = wholeFrom(fine);
        rests(fine, Check.least(fine), 1, 1);
        rests(fine, -Check.least(fine), 1, -0.0);
        rests(fine, Check.nextDown(fine, 1), 1, 1);
        rests(fine, Check.nextUp(fine, 1), 1, 2);
        rests(fine, Check.nextDown(fine, -1), 1, -1);
        rests(fine, Check.nextUp(fine, -1), 1, -0.0);
        rests(fine, 1.5, 1, 2);
        rests(fine, -1.5, 1, -1);
        rests(fine, all - 0.5, 1, all);
        rests(fine, 0.5 - all, 1, 1 - all);
    }

    private static void restNearest(boolean fine) {
        rests(fine, Check.least(fine), 2, 0.0);
        for (double side : new double[] {1, -1}) {
            rests(fine, side * Check.nextDown(fine, 0.5), 2, side * 0.0);
            rests(fine, side * Check.nextUp(fine, 0.5), 2, side);
            rests(fine, side * Check.nextDown(fine, 1), 2, side);
            rests(fine, side * Check.nextDown(fine, 1.5), 2, side);
            rests(fine, side * Check.nextUp(fine, 1.5), 2, side * 2);
            rests(fine, side * Check.nextDown(fine, 2.5), 2, side * 2);
            rests(fine, side * Check.nextUp(fine, 2.5), 2, side * 3);
            rests(fine, side * 7.75, 2, side * 8);
        }
    }

    private static void evenOfTwo(boolean fine) {
        double all = wholeFrom(fine);
        for (double side : new double[] {1, -1}) {
            rests(fine, side * 0.5, 2, side * 0.0);
            rests(fine, side * 1.5, 2, side * 2);
            rests(fine, side * 2.5, 2, side * 2);
            rests(fine, side * 3.5, 2, side * 4);
            rests(fine, side * 1022.5, 2, side * 1022);
            rests(fine, side * 1023.5, 2, side * 1024);
            rests(fine, side * (all - 0.5), 2, side * all);
            rests(fine, side * (all - 1.5), 2, side * (all - 2));
        }
    }

    private static void wholeOnesStay(boolean fine) {
        double all = wholeFrom(fine);
        double[] numbers = {0.0, -0.0, INF, -INF, 1, -1, 7, -8, all, all + 1, -all, all - 1, Check.most(fine),
            -Check.most(fine)};
        for (double number : numbers) {
            for (int way = 0; way <= 2; way++) {
                rests(fine, number, way, number);
            }
        }
    }

    private static void sideOfANought(boolean fine) {
        rests(fine, 0.75, 0, 0.0);
        rests(fine, -0.75, 1, -0.0);
        rests(fine, 0.25, 2, 0.0);
        rests(fine, -0.25, 2, -0.0);
        rests(fine, -0.5, 2, -0.0);
        rests(fine, -0.0, 0, -0.0);
        rests(fine, -0.0, 1, -0.0);
        rests(fine, -0.0, 2, -0.0);
        rests(fine, 0.0, 0, 0.0);
    }

    private static void restsBetween(boolean fine, double low, double high, double from, int way, double due) {
        NeedleBoard board = Check.boardWith(fine, low, high);
        board.put(0, Check.bits(fine, from));
        String call = from + " between " + low + " and " + high + " at rest by " + way;
        CHECK.same(call, board.rest(0, way), Check.bits(fine, due));
    }

    private static void restWithinTheLimits(boolean fine) {
        restsBetween(fine, 0.25, 2.75, 0.5, 0, 0.25);
        restsBetween(fine, 0.25, 2.75, 0.5, 1, 1);
        restsBetween(fine, 0.25, 2.75, 2.5, 1, 2.75);
        restsBetween(fine, 0.25, 2.75, 2.75, 2, 2.75);
        restsBetween(fine, 0.25, 2.75, 0.25, 2, 0.25);
        restsBetween(fine, -2.75, -0.25, -0.5, 1, -0.25);
        restsBetween(fine, -2.75, -0.25, -2.5, 0, -2.75);
        restsBetween(fine, 1, 2, 1.5, 0, 1);
        restsBetween(fine, 1, 2, 1.5, 1, 2);
        restsBetween(fine, 0.25, 0.75, 0.5, 2, 0.25);
    }

    private static void anotherWay(boolean fine) {
        for (int way : new int[] {-1, 3, 4, Integer.MIN_VALUE, Integer.MAX_VALUE}) {
            CHECK.refused("way " + way, IllegalArgumentException.class, x -> x.rest(fine ? 0 : 1, way));
        }
    }
}
