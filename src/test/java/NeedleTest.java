/** Promise 2. */
public final class NeedleTest {
    private static final Check CHECK = new Check();

    public static void main(String[] args) {
        freshNeedles();
        limitsAroundNought();
        noNumbers();
        limitsInWrongOrder();
        fullBoard();
        CHECK.end();
    }

    private static void freshNeedles() {
        NeedleBoard board = new NeedleBoard();
        CHECK.same("the first", board.needle(true, Check.fine(-2.5), Check.fine(4)), 0);
        CHECK.same("the second", board.needle(false, Check.coarse(1.5f), Check.coarse(4)), 1);
        CHECK.same("the third", board.needle(false, Check.coarse(-4), Check.coarse(-1.5f)), 2);
        CHECK.same("the fourth, of one number", board.needle(true, Check.fine(3), Check.fine(3)), 3);
        long[] first = {
            0, Check.fine(-2.5), Check.fine(4), 0, 0, 0, Check.INFINITY, 0, 0
        };
        long[] second = {
            Check.coarse(1.5f), Check.coarse(1.5f), Check.coarse(4), Check.coarse(1.5f), Check.coarse(1.5f),
            Check.coarse(1.5f), Check.COARSE_INFINITY, Check.coarse(1.5f), Check.coarse(1)
        };
        long[] third = {
            Check.coarse(-1.5f), Check.coarse(-4), Check.coarse(-1.5f), Check.coarse(-1.5f), Check.coarse(-1.5f),
            Check.coarse(1.5f), Check.COARSE_INFINITY, Check.coarse(1.5f), Check.coarse(-1)
        };
        for (int what = 0; what <= 8; what++) {
            CHECK.same("read(0, " + what + ")", board.read(0, what), first[what]);
            CHECK.same("read(1, " + what + ")", board.read(1, what), second[what]);
            CHECK.same("read(2, " + what + ")", board.read(2, what), third[what]);
        }
        CHECK.same("read(3, 0)", board.read(3, 0), Check.fine(3));
        CHECK.same("needles are no moves", board.count(4), 0);
    }

    private static void limitsAroundNought() {
        CHECK.same("below a low 0.0 there is -0.0",
                Check.boardWithFine(-1, -0.0).read(0, 0), Check.MINUS_NOUGHT);
        CHECK.same("both noughts", Check.boardWithFine(-0.0, 0.0).read(0, 0), Check.NOUGHT);
        CHECK.same("only -0.0", Check.boardWithFine(-0.0, -0.0).read(0, 0), Check.MINUS_NOUGHT);
        CHECK.same("both coarse noughts", Check.boardWithCoarse(-0f, 0f).read(0, 0), 0);
        CHECK.same("only the coarse -0.0", Check.boardWithCoarse(-0f, -0f).read(0, 0), Integer.MIN_VALUE);
        NeedleBoard board = new NeedleBoard();
        board.needle(false, 0x500000000L + 0x3f800000L, 0x7f800000L);
        CHECK.same("of coarse bits the lower 32 count", board.read(0, 1), Check.coarse(1));
        board.needle(false, 0xff800000L, 0x123456780000000L);
        CHECK.same("coarse bits are below 0 where the number is", board.read(1, 1), -8388608L);
        CHECK.same("the limit -0.0", board.read(1, 2), Integer.MIN_VALUE);
        board.needle(true, Check.INFINITY, Check.INFINITY);
        CHECK.same("0.0 within the infinity", board.read(2, 0), Check.INFINITY);
        board.needle(true, Check.MINUS_INFINITY, Check.MINUS_INFINITY);
        CHECK.same("0.0 within the negative infinity", board.read(3, 0), Check.MINUS_INFINITY);
    }

    private static void noNumbers() {
        for (long nan : Check.FINE_NANS) {
            refused(true, nan, Check.INFINITY);
            refused(true, Check.MINUS_INFINITY, nan);
            refused(true, nan, nan);
        }
        for (long nan : Check.COARSE_NANS) {
            refused(false, nan, Check.COARSE_INFINITY);
            refused(false, Check.COARSE_MINUS_INFINITY, nan);
            refused(false, nan, nan);
        }
        long nanForFineAlone = 0x7ff8000000000000L;
        CHECK.same("fine NaN bits as a coarse 0.0",
                new NeedleBoard().needle(false, nanForFineAlone, nanForFineAlone), 0);
    }

    private static void limitsInWrongOrder() {
        refused(true, Check.NOUGHT, Check.MINUS_NOUGHT);
        refused(false, 0, Integer.MIN_VALUE);
        refused(true, Check.fine(1), Check.fine(0.5));
        refused(true, Check.fine(-1), Check.fine(-2));
        refused(true, Check.fine(Double.MIN_VALUE), 0);
        refused(false, Check.coarse(1), Check.coarse(-1));
        refused(false, Check.coarse(-1), Check.coarse(-2));
        refused(true, Check.INFINITY, Check.MINUS_INFINITY);
        refused(false, Check.COARSE_INFINITY, Check.COARSE_MINUS_INFINITY);
    }

    private static void fullBoard() {
        NeedleBoard board = new NeedleBoard();
        for (int n = 0; n < 8; n++) {
            CHECK.same("needle " + n, board.needle(n % 2 == 0, 0, 0), n);
        }
        CHECK.same("count 0", board.count(0), 8);
        CHECK.refused("a ninth", IllegalStateException.class, Check::fullBoard, x -> x.needle(true, 0, 0));
        CHECK.refused("a coarse ninth", IllegalStateException.class, Check::fullBoard,
                x -> x.needle(false, 0, 0));
        CHECK.refused("a ninth with NaN", IllegalArgumentException.class, Check::fullBoard,
                x -> x.needle(true, 0, Check.FINE_NANS[0]));
        CHECK.refused("a ninth in wrong order", IllegalArgumentException.class, Check::fullBoard,
                x -> x.needle(true, Check.NOUGHT, Check.MINUS_NOUGHT));
    }

    private static void refused(boolean fine, long low, long high) {
        CHECK.refused("needle(" + fine + ", " + low + ", " + high + ")", IllegalArgumentException.class,
                x -> x.needle(fine, low, high));
    }
}
