/** Promise 1, and the constant. */
public final class NewObjectTest {
    public static void main(String[] args) {
        Check check = new Check();
        check.same("NONE", NeedleBoard.NONE, -1);
        NeedleBoard board = new NeedleBoard();
        for (int what = 0; what <= 4; what++) {
            check.same("count " + what, board.count(what), 0);
        }
        check.same("the wide tally", board.tally(true, 1, Long.MIN_VALUE), 0);
        check.same("the narrow tally", board.tally(false, 1, Integer.MIN_VALUE), 0);
        check.same("the wide tally from above", new NeedleBoard().tally(true, 2, Long.MAX_VALUE), 0);
        check.same("the narrow tally from above", new NeedleBoard().tally(false, 2, Integer.MAX_VALUE), 0);
        check.refused("read(0, 0)", java.util.NoSuchElementException.class, NeedleBoard::new, x -> x.read(0, 0));

        NeedleBoard other = new NeedleBoard();
        other.needle(true, Check.NOUGHT, Check.NOUGHT);
        other.tally(true, 0, 7);
        check.same("count 0 of the first board", board.count(0), 0);
        check.same("the wide tally of the first board", board.tally(true, 1, Long.MIN_VALUE), 0);
        check.end();
    }
}
