/** The boundary cases of promises 9, 10, 11, 12 and 14, each sentence in a method of its own. */
public final class TellBoundaryTest {
    private static final Check CHECK = new Check();
    private static final double INF = Double.POSITIVE_INFINITY;
    private static final int[] FAR = {Integer.MIN_VALUE, Integer.MAX_VALUE};

    public static void main(String[] args) {
        CHECK.eachKind("Promise 9: what 0 .. 8", TellBoundaryTest::readFirstAndLast);
        CHECK.eachKind("Promise 9: 1 with the SIDE of the VALUE", TellBoundaryTest::oneWithTheSide);
        CHECK.eachKind("Promise 9: or the VALUE itself if it is a nought", TellBoundaryTest::valueItselfIfNought);
        CHECK.eachKind("Promise 9: IllegalArgumentException: another what", TellBoundaryTest::readAnother);
        CHECK.eachKind("Promise 10: the lesser one (what 0), the greater one (1) by ORDER",
                TellBoundaryTest::lesserAndGreater);
        CHECK.eachKind("Promise 10: of the lesser SIZE (2), the greater SIZE (3)",
                TellBoundaryTest::lesserAndGreaterSize);
        CHECK.eachKind("Promise 10: IllegalArgumentException: another what", TellBoundaryTest::betweenAnother);
        CHECK.eachKind("Promise 11: below (-1), the same as (0; as BITS would be) or above (1)",
                TellBoundaryTest::sameAsBits);
        CHECK.eachKind("Promise 12: The VALUE becomes 0.0 WITHIN the LIMITS", TellBoundaryTest::backWithinTheLimits);
        CHECK.eachKind("Promise 12: the MARKS are those of it alone", TellBoundaryTest::marksOfItAlone);
        CHECK.eachKind("Promise 14: 2 of which the VALUE is a nought", TellBoundaryTest::noughtsCounted);
        CHECK.eachKind("Promise 14: 3 of which it is one of the LIMITS (by BITS)", TellBoundaryTest::limitsByBits);
        CHECK.eachKind("Promise 14: calls that were not refused", TellBoundaryTest::refusedCallsNotCounted);
        CHECK.sentence("Promise 10: IllegalArgumentException: one is FINE and the other COARSE",
                TellBoundaryTest::betweenTwoKinds);
        CHECK.sentence("Promise 11: a COARSE one being the double that it is", TellBoundaryTest::coarseAsDouble);
        CHECK.sentence("Promise 14: How many: 0 NEEDLES, 1 FINE ones", TellBoundaryTest::countOfNoneAndAll);
        CHECK.sentence("Promise 14: 4 calls of put, turn, pull, rest, face (since the beginning)",
                TellBoundaryTest::movesSinceTheBeginning);
        CHECK.sentence("Promise 14: NONE for another what", TellBoundaryTest::countAnother);
        CHECK.end();
    }

    private static void readFirstAndLast(boolean fine) {
        NeedleBoard board = Check.boardWith(fine, -7, 9);
        board.put(0, Check.bits(fine, 5));
        board.put(0, Check.bits(fine, -6));
        board.put(0, Check.bits(fine, -2));
        board.damp(0, Check.bits(fine, 0.5));
        double[] due = {-2, -7, 9, 5, -6, 6, 0.5, 2, -1};
        for (int what = 0; what < due.length; what++) {
            CHECK.same("what " + what, board.read(0, what), Check.bits(fine, due[what]));
        }
    }

    private static void oneWithTheSide(boolean fine) {
        double[] numbers = {Check.least(fine), -Check.least(fine), Check.most(fine), -Check.most(fine), INF, -INF};
        for (double number : numbers) {
            CHECK.same("of " + number, Check.freeAt(fine, number).read(0, 8),
                    Check.bits(fine, number > 0 ? 1 : -1));
        }
    }

    private static void valueItselfIfNought(boolean fine) {
        CHECK.same("of 0.0", Check.freeAt(fine, 0.0).read(0, 8), 0);
        CHECK.same("of -0.0", Check.freeAt(fine, -0.0).read(0, 8), Check.bits(fine, -0.0));
    }

    private static void readAnother(boolean fine) {
        for (int what : new int[] {-1, 9, FAR[0], FAR[1]}) {
            CHECK.refused("read what " + what, IllegalArgumentException.class, x -> x.read(fine ? 0 : 1, what));
        }
    }

    private static void between(boolean fine, double one, double other, int what, double due) {
        NeedleBoard board = Check.freePair(fine, one, other);
        String call = "of " + one + " and " + other + " what " + what;
        CHECK.same(call, board.between(0, 1, what), Check.bits(fine, due));
        CHECK.same(call + " turned round", board.between(1, 0, what), Check.bits(fine, due));
    }

    private static void lesserAndGreater(boolean fine) {
        double[][] ordered = {{-0.0, 0.0}, {-INF, INF}, {-2, -1}, {1, 2}, {-2, 1}, {-1, 2}, {0.0, Check.least(fine)},
            {-Check.least(fine), -0.0}, {Check.most(fine), INF}, {-0.0, -0.0}, {INF, INF}};
        for (double[] two : ordered) {
            between(fine, two[0], two[1], 0, two[0]);
            between(fine, two[0], two[1], 1, two[1]);
        }
        CHECK.same("of one with itself", Check.freeAt(fine, -0.0).between(0, 0, 1), Check.bits(fine, -0.0));
    }

    private static void lesserAndGreaterSize(boolean fine) {
        double[][] ordered = {{-0.0, 0.0}, {-0.0, -0.0}, {-1, 2}, {1, -2}, {-1, -2}, {-3, 3},
            {-0.0, -Check.least(fine)}, {Check.most(fine), -INF}, {-INF, INF}};
        for (double[] two : ordered) {
            between(fine, two[0], two[1], 2, Math.abs(two[0]));
            between(fine, two[0], two[1], 3, Math.abs(two[1]));
        }
    }

    private static void betweenTwoKinds() {
        for (int what = 0; what <= 3; what++) {
            int asked = what;
            CHECK.refused("what " + what, IllegalArgumentException.class, x -> x.between(0, 1, asked));
            CHECK.refused("what " + what + " turned round", IllegalArgumentException.class,
                    x -> x.between(1, 0, asked));
        }
    }

    private static void betweenAnother(boolean fine) {
        int n = fine ? 0 : 1;
        for (int what : new int[] {-1, 4, FAR[0], FAR[1]}) {
            CHECK.refused("between what " + what, IllegalArgumentException.class, x -> x.between(n, n, what));
            CHECK.refused("between what " + what + " of two", IllegalArgumentException.class,
                    () -> Check.freePair(fine, 1, 2), x -> x.between(0, 1, what));
        }
    }

    private static void sameAsBits(boolean fine) {
        double[] ordered = {-INF, -Check.most(fine), Check.nextDown(fine, -1), -1, -Check.least(fine), -0.0, 0.0,
            Check.least(fine), 1, Check.nextUp(fine, 1), Check.most(fine), INF};
        for (int i = 0; i < ordered.length; i++) {
            for (int k = 0; k < ordered.length; k++) {
                CHECK.same(ordered[i] + " to " + ordered[k], Check.freePair(fine, ordered[i], ordered[k]).order(0, 1),
                        Integer.compare(i, k));
            }
        }
    }

    private static void orders(double one, float other, int due) {
        NeedleBoard board = Check.freeAt(true, one);
        board.needle(false, Check.COARSE_MINUS_INFINITY, Check.COARSE_INFINITY);
        board.put(1, Check.coarse(other));
        CHECK.same(one + " to " + other + "f", board.order(0, 1), due);
        CHECK.same(other + "f to " + one, board.order(1, 0), -due);
    }

    private static void coarseAsDouble() {
        orders(0.0, 0f, 0);
        orders(-0.0, -0f, 0);
        orders(0.0, -0f, 1);
        orders(-0.0, 0f, -1);
        orders(INF, Float.POSITIVE_INFINITY, 0);
        orders(-INF, Float.NEGATIVE_INFINITY, 0);
        orders(Double.MAX_VALUE, Float.POSITIVE_INFINITY, -1);
        orders(Float.MAX_VALUE, Float.MAX_VALUE, 0);
        orders(Math.nextUp((double) Float.MAX_VALUE), Float.MAX_VALUE, 1);
        orders(Float.MIN_VALUE, Float.MIN_VALUE, 0);
        orders(Math.nextDown((double) Float.MIN_VALUE), Float.MIN_VALUE, -1);
        orders(Double.MIN_VALUE, Float.MIN_VALUE, -1);
        orders(Double.MIN_VALUE, 0f, 1);
        orders(-Double.MIN_VALUE, -0f, -1);
        orders(Float.MIN_NORMAL, Float.MIN_NORMAL, 0);
        orders(Float.MIN_NORMAL - (double) Float.MIN_VALUE, Float.MIN_NORMAL - Float.MIN_VALUE, 0);
        orders(0.1, 0.1f, -1);
        orders(0.1f, 0.1f, 0);
        orders(-0.1, -0.1f, 1);
        orders(1, 1f, 0);
    }

    private static NeedleBoard sentBack(boolean fine, double low, double high) {
        NeedleBoard board = Check.boardWith(fine, low, high);
        board.put(0, Check.bits(fine, INF));
        board.put(0, Check.bits(fine, -INF));
        board.damp(0, Check.bits(fine, 0.5));
        board.back(0);
        return board;
    }

    private static void backWithinTheLimits(boolean fine) {
        double least = Check.least(fine);
        double[][] backs = {{-9, 9, 0.0}, {least, 9, least}, {-9, -least, -least}, {-9, -0.0, -0.0}, {-0.0, 9, 0.0},
            {0.0, 9, 0.0}, {-0.0, 0.0, 0.0}, {INF, INF, INF}, {-INF, -INF, -INF}};
        for (double[] back : backs) {
            CHECK.same("between " + back[0] + " and " + back[1], sentBack(fine, back[0], back[1]).read(0, 0),
                    Check.bits(fine, back[2]));
        }
    }

    private static void marksOfItAlone(boolean fine) {
        double[][] backs = {{-9, 9, 0.0}, {2, 9, 2}, {-9, -2, -2}, {-9, -0.0, -0.0}};
        for (double[] back : backs) {
            NeedleBoard board = sentBack(fine, back[0], back[1]);
            String limits = " between " + back[0] + " and " + back[1];
            CHECK.same("the highest" + limits, board.read(0, 3), Check.bits(fine, back[2]));
            CHECK.same("the lowest" + limits, board.read(0, 4), Check.bits(fine, back[2]));
            CHECK.same("the greatest size" + limits, board.read(0, 5), Check.bits(fine, Math.abs(back[2])));
            CHECK.same("the low limit stays", board.read(0, 1), Check.bits(fine, back[0]));
            CHECK.same("the high limit stays", board.read(0, 2), Check.bits(fine, back[1]));
            CHECK.same("the step stays", board.read(0, 6), Check.bits(fine, 0.5));
        }
    }

    private static void countOfNoneAndAll() {
        NeedleBoard board = new NeedleBoard();
        for (int n = 0; n < 8; n++) {
            CHECK.same("needles", board.count(0), n);
            CHECK.same("fine ones", board.count(1), (n + 1) / 2);
            board.needle(n % 2 == 0, 0, 0);
        }
        CHECK.same("needles of a full board", board.count(0), 8);
        CHECK.same("fine ones of a full board", board.count(1), 4);
        CHECK.same("noughts of a full board", board.count(2), 8);
        CHECK.same("at the limits of a full board", board.count(3), 8);
    }

    private static void noughtsCounted(boolean fine) {
        CHECK.same("0.0", Check.freeAt(fine, 0.0).count(2), 1);
        CHECK.same("-0.0", Check.freeAt(fine, -0.0).count(2), 1);
        CHECK.same("the least number", Check.freeAt(fine, Check.least(fine)).count(2), 0);
        CHECK.same("the least negative number", Check.freeAt(fine, -Check.least(fine)).count(2), 0);
        CHECK.same("both noughts", Check.freePair(fine, 0.0, -0.0).count(2), 2);
    }

    private static void limitsByBits(boolean fine) {
        NeedleBoard board = Check.boardWith(fine, -0.0, 2);
        CHECK.same("0.0 is not the limit -0.0", board.count(3), 0);
        board.put(0, Check.bits(fine, -0.0));
        CHECK.same("-0.0 is", board.count(3), 1);
        board.put(0, Check.bits(fine, Check.nextDown(fine, 2)));
        CHECK.same("just below the high limit", board.count(3), 0);
        board.put(0, Check.bits(fine, 2));
        CHECK.same("the high limit", board.count(3), 1);
        NeedleBoard high = Check.boardWith(fine, -2, 0.0);
        high.put(0, Check.bits(fine, -0.0));
        CHECK.same("-0.0 is not the limit 0.0", high.count(3), 0);
        CHECK.same("both limits are counted once", Check.boardWith(fine, 3, 3).count(3), 1);
        CHECK.same("an infinite limit", Check.freeAt(fine, INF).count(3), 1);
        CHECK.same("the low infinite limit", Check.freeAt(fine, -INF).count(3), 1);
    }

    private static void refusedCallsNotCounted(boolean fine) {
        NeedleBoard board = Check.freeAt(fine, INF);
        long nan = Check.nans(fine)[0];
        notCounted(board, x -> x.put(0, nan));
        notCounted(board, x -> x.put(1, 0));
        notCounted(board, x -> x.turn(0, nan));
        notCounted(board, x -> x.turn(-1, 0));
        notCounted(board, x -> x.turn(0, Check.bits(fine, -INF)));
        notCounted(board, x -> x.pull(0, nan) ? 1 : 0);
        notCounted(board, x -> x.pull(8, 0) ? 1 : 0);
        notCounted(board, x -> x.rest(0, 3));
        notCounted(board, x -> x.rest(1, 0));
        notCounted(board, x -> x.face(0, 1));
        notCounted(board, x -> x.face(1, 0));
    }

    private static void notCounted(NeedleBoard board, Check.Call call) {
        boolean refused = false;
        try {
            call.on(board);
        } catch (RuntimeException e) {
            refused = true;
        }
        CHECK.yes("the call is refused", refused);
        CHECK.same("the moves then", board.count(4), 1);
    }

    private static void movesSinceTheBeginning() {
        NeedleBoard board = Check.freeFine();
        CHECK.same("at the beginning", board.count(4), 0);
        board.put(0, Check.NOUGHT);
        CHECK.same("a put that changes nothing", board.count(4), 1);
        board.turn(0, Check.NOUGHT);
        CHECK.same("a turn", board.count(4), 2);
        board.pull(0, Check.NOUGHT);
        CHECK.same("a pull", board.count(4), 3);
        board.rest(0, 2);
        CHECK.same("a rest", board.count(4), 4);
        board.face(0, 0);
        CHECK.same("a face", board.count(4), 5);
        board.back(0);
        CHECK.same("back leaves the moves", board.count(4), 5);
        board.damp(0, Check.NOUGHT);
        board.tally(true, 0, 3);
        board.needle(true, 0, 0);
        CHECK.same("nor are others moves", board.count(4), 5);
        board.put(1, Check.NOUGHT);
        CHECK.same("the moves of all needles", board.count(4), 6);
    }

    private static void countAnother() {
        for (int what : new int[] {-1, 5, FAR[0], FAR[1]}) {
            CHECK.same("count " + what, new NeedleBoard().count(what), -1);
            CHECK.same("count " + what + " of a full board", Check.fullBoard().count(what), NeedleBoard.NONE);
        }
    }
}
