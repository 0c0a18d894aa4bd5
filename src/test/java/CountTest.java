/** Promise 14. */
public final class CountTest {
    private static final Check CHECK = new Check();

    public static void main(String[] args) {
        kindsAndValues();
        moves();
        noneForAnother();
        CHECK.end();
    }

    private static void counts(NeedleBoard board, int needles, int fine, int noughts, int limits) {
        CHECK.same("count 0", board.count(0), needles);
        CHECK.same("count 1", board.count(1), fine);
        CHECK.same("count 2", board.count(2), noughts);
        CHECK.same("count 3", board.count(3), limits);
    }

    private static void kindsAndValues() {
        NeedleBoard board = new NeedleBoard();
        board.needle(true, Check.fine(-1), Check.fine(1));
        counts(board, 1, 1, 1, 0);
        board.needle(false, Check.coarse(-1), Check.coarse(1));
        counts(board, 2, 1, 2, 0);
        board.needle(false, Check.coarse(1), Check.coarse(2));
        counts(board, 3, 1, 2, 1);
        board.needle(true, Check.MINUS_NOUGHT, Check.fine(2));
        counts(board, 4, 2, 3, 1);
        board.put(3, Check.MINUS_NOUGHT);
        counts(board, 4, 2, 3, 2);
        board.put(1, Integer.MIN_VALUE);
        counts(board, 4, 2, 3, 2);
        board.put(1, Check.coarse(7));
        counts(board, 4, 2, 2, 3);
        board.put(0, Check.fine(-1));
        counts(board, 4, 2, 1, 4);
        board.put(0, Check.fine(Double.MIN_VALUE));
        counts(board, 4, 2, 1, 3);
        board.needle(true, Check.fine(3), Check.fine(3));
        counts(board, 5, 3, 1, 4);
    }

    private static void moves() {
        NeedleBoard board = Check.freeFine();
        board.put(0, Check.INFINITY);
        CHECK.same("after put", board.count(4), 1);
        board.turn(0, Check.fine(1));
        CHECK.same("after turn", board.count(4), 2);
        board.pull(0, Check.fine(1));
        CHECK.same("after pull", board.count(4), 3);
        board.rest(0, 0);
        CHECK.same("after rest", board.count(4), 4);
        board.face(0, 0);
        CHECK.same("after face", board.count(4), 5);
        board.damp(0, Check.fine(1));
        board.read(0, 0);
        board.between(0, 0, 0);
        board.order(0, 0);
        board.back(0);
        board.tally(true, 0, 1);
        board.needle(true, 0, 0);
        board.count(4);
        CHECK.same("after the others", board.count(4), 5);
        CHECK.refused("a put", IllegalArgumentException.class, () -> board, x -> x.put(0, -1));
        CHECK.refused("a rest", IllegalArgumentException.class, () -> board, x -> x.rest(0, 9));
        CHECK.refused("a face", java.util.NoSuchElementException.class, () -> board, x -> x.face(0, 9));
        CHECK.same("after refused ones", board.count(4), 5);
    }

    private static void noneForAnother() {
        NeedleBoard board = Check.freeFine();
        for (int what : new int[] {-1, 5, 6, Integer.MAX_VALUE, Integer.MIN_VALUE}) {
            CHECK.same("count " + what, board.count(what), NeedleBoard.NONE);
        }
    }
}
