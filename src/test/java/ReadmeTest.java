/** The example of README.md, call by call. */
public final class ReadmeTest {
    public static void main(String[] args) {
        Check check = new Check();
        NeedleBoard board = new NeedleBoard();
        int n = board.needle(true, Check.fine(-2.5), Check.fine(4.0));
        check.same("the first needle", n, 0);
        check.same("put", board.put(n, Check.fine(1.75)), Check.fine(1.75));
        check.same("turn", board.turn(n, Check.fine(9.0)), Check.fine(4.0));
        check.same("damp", board.damp(n, Check.fine(0.75)), Check.fine(0.75));
        check.no("pull", board.pull(n, Check.fine(1.0)));
        check.same("the value then", board.read(n, 0), Check.fine(3.25));
        check.same("rest", board.rest(n, 0), Check.fine(3.0));
        check.same("highest", board.read(n, 3), Check.fine(4.0));

        int m = board.needle(false, Check.coarse(-1f), Check.coarse(1f));
        check.same("the second needle", m, 1);
        board.put(m, Check.coarse(-0.5f));
        check.same("nought", board.rest(m, 1), Check.coarse(-0.0f));
        check.same("faced", board.face(n, m), Check.fine(-2.5));
        check.same("order", board.order(n, m), -1);
        check.same("tally", board.tally(true, 1, 12), 12);
        check.same("moves", board.count(4), 7);
        check.end();
    }
}
