import java.util.NoSuchElementException;

/** "NoSuchElementException: there is no such NEEDLE (so everywhere)", and "A call that throws changes nothing". */
public final class RefusedCallTest {
    private static final Check CHECK = new Check();

    public static void main(String[] args) {
        CHECK.sentence("there is no such NEEDLE (so everywhere): two there are", RefusedCallTest::twoThereAre);
        CHECK.sentence("there is no such NEEDLE (so everywhere): none there is", RefusedCallTest::noneThereIs);
        CHECK.sentence("there is no such NEEDLE (so everywhere): all there can be", RefusedCallTest::eightThereAre);
        CHECK.sentence("there is no such NEEDLE (but there is the last one)", RefusedCallTest::lastOneThereIs);
        CHECK.eachKind("A call that throws changes nothing", RefusedCallTest::nothingChanges);
        CHECK.sentence("A call that throws changes nothing, nor do many", RefusedCallTest::manyRefusedCalls);
        CHECK.end();
    }

    private static void twoThereAre() {
        for (int n : new int[] {-1, 2, 3, 7, 8, 9, 1 << 16, Integer.MIN_VALUE, Integer.MAX_VALUE}) {
            noSuchNeedle(Check::boardInUse, n, 0);
        }
    }

    private static void noneThereIs() {
        for (int n : new int[] {-1, 0, 1, 7, 8}) {
            noSuchNeedle(NeedleBoard::new, n, 0);
        }
    }

    private static void eightThereAre() {
        for (int n : new int[] {-1, 8, 9, Integer.MIN_VALUE, Integer.MAX_VALUE}) {
            noSuchNeedle(Check::fullBoard, n, 7);
        }
    }

    private static void noSuchNeedle(Check.Maker maker, int n, int there) {
        refused(maker, "put of needle " + n, x -> x.put(n, 0));
        refused(maker, "turn of needle " + n, x -> x.turn(n, 0));
        refused(maker, "damp of needle " + n, x -> x.damp(n, 0));
        refused(maker, "pull of needle " + n, x -> x.pull(n, 0) ? 1 : 0);
        refused(maker, "rest of needle " + n, x -> x.rest(n, 0));
        refused(maker, "face of needle " + n, x -> x.face(n, there));
        refused(maker, "face with needle " + n, x -> x.face(there, n));
        refused(maker, "read of needle " + n, x -> x.read(n, 0));
        refused(maker, "between of needle " + n, x -> x.between(n, there, 0));
        refused(maker, "between with needle " + n, x -> x.between(there, n, 0));
        refused(maker, "order of needle " + n, x -> x.order(n, there));
        refused(maker, "order with needle " + n, x -> x.order(there, n));
        refused(maker, "back of needle " + n, x -> sentBack(x, n));
    }

    private static long sentBack(NeedleBoard board, int n) {
        board.back(n);
        return 0;
    }

    private static void refused(Check.Maker maker, String what, Check.Call call) {
        CHECK.refused(what, NoSuchElementException.class, maker, call);
    }

    private static void lastOneThereIs() {
        NeedleBoard board = Check.fullBoard();
        CHECK.same("put", board.put(7, 0), 0);
        CHECK.same("turn", board.turn(7, 0), 0);
        CHECK.same("damp", board.damp(7, 0), 0);
        CHECK.yes("pull", board.pull(7, 0));
        CHECK.same("rest", board.rest(7, 0), 0);
        CHECK.same("face", board.face(7, 7), 0);
        CHECK.same("read", board.read(7, 0), 0);
        CHECK.same("between", board.between(7, 6, 0), 0);
        CHECK.same("order", board.order(7, 0), 0);
        CHECK.same("back", sentBack(board, 7), 0);
    }

    /** An infinite value, marks on both sides, a step and tallies: all that a refused call might spoil. */
    private static NeedleBoard boardAtInfinity(boolean fine) {
        NeedleBoard board = Check.freeAt(fine, -3);
        board.needle(!fine, 0, 0);
        board.put(0, Check.bits(fine, Double.POSITIVE_INFINITY));
        board.damp(0, Check.bits(fine, 2));
        board.tally(true, 0, 21);
        board.tally(false, 0, 22);
        return board;
    }

    private static void nothingChanges(boolean fine) {
        long nan = Check.nans(fine)[0];
        unchanged(IllegalArgumentException.class, fine, x -> x.needle(fine, nan, 0));
        unchanged(IllegalArgumentException.class, fine, x -> x.needle(fine, 0, nan));
        unchanged(IllegalArgumentException.class, fine, x -> x.needle(fine, 0, Check.bits(fine, -0.0)));
        unchanged(IllegalArgumentException.class, fine, x -> x.put(0, nan));
        unchanged(IllegalArgumentException.class, fine, x -> x.turn(0, nan));
        unchanged(IllegalStateException.class, fine,
                x -> x.turn(0, Check.bits(fine, Double.NEGATIVE_INFINITY)));
        unchanged(IllegalArgumentException.class, fine, x -> x.damp(0, nan));
        unchanged(IllegalArgumentException.class, fine, x -> x.pull(0, nan) ? 1 : 0);
        unchanged(IllegalArgumentException.class, fine, x -> x.rest(0, 3));
        unchanged(IllegalArgumentException.class, fine, x -> x.read(0, 9));
        unchanged(IllegalArgumentException.class, fine, x -> x.between(0, 1, 0));
        unchanged(IllegalArgumentException.class, fine, x -> x.between(0, 0, 4));
        unchanged(IllegalArgumentException.class, fine, x -> x.tally(true, 5, 1));
        unchanged(IllegalArgumentException.class, fine, x -> x.tally(false, -1, 1));
        unchanged(NoSuchElementException.class, fine, x -> x.face(0, 2));
        CHECK.refused("a ninth", IllegalStateException.class, Check::fullBoard, x -> x.needle(fine, 0, 0));
    }

    private static void unchanged(Class<? extends RuntimeException> due, boolean fine, Check.Call call) {
        CHECK.refused("the call", due, () -> boardAtInfinity(fine), call);
    }

    private static void manyRefusedCalls() {
        NeedleBoard board = Check.boardInUse();
        String before = Check.stateOf(board);
        for (int i = 0; i < 400; i++) {
            try {
                board.needle(true, Check.NOUGHT, Check.MINUS_NOUGHT);
                CHECK.same("needle", "an answer", "an exception");
            } catch (IllegalArgumentException e) {
                CHECK.yes("needle is refused", true);
            }
        }
        CHECK.same("the board then", Check.stateOf(board), before);
        CHECK.same("the next needle", board.needle(true, 0, 0), 2);
    }
}
