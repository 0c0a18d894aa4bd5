import java.util.NoSuchElementException;

/** Promise 12. */
public final class BackTest {
    private static final Check CHECK = new Check();

    public static void main(String[] args) {
        sentBack(-9, 9, 0.0);
        sentBack(2, 9, 2);
        sentBack(-9, -2, -2);
        sentBack(-9, -0.0, -0.0);
        sentBack(-0.0, 9, 0.0);
        coarseOne();
        wrongOnes();
        CHECK.end();
    }

    private static void sentBack(double low, double high, double due) {
        NeedleBoard board = Check.boardWithFine(low, high);
        board.put(0, Check.fine(8));
        board.put(0, Check.fine(-7));
        board.put(0, Check.fine(3));
        board.damp(0, Check.fine(0.5));
        board.back(0);
        String call = "after back within " + low + " and " + high + " ";
        CHECK.same(call + "the value", board.read(0, 0), Check.fine(due));
        CHECK.same(call + "the highest", board.read(0, 3), Check.fine(due));
        CHECK.same(call + "the lowest", board.read(0, 4), Check.fine(due));
        CHECK.same(call + "the greatest size", board.read(0, 5), Check.fine(Math.abs(due)));
        CHECK.same(call + "the limits stay", board.read(0, 1), Check.fine(low));
        CHECK.same(call + "the step stays", board.read(0, 6), Check.fine(0.5));
        CHECK.same(call + "count 4", board.count(4), 3);
        board.put(0, Check.fine(1));
        double one = Math.min(Math.max(1, low), high);
        CHECK.same(call + "the highest goes on", board.read(0, 3), Check.fine(Math.max(one, due)));
    }

    private static void coarseOne() {
        NeedleBoard board = Check.boardWithCoarse(-9, -2);
        board.needle(false, Check.coarse(5), Check.coarse(6));
        board.put(1, Check.coarse(6));
        board.put(0, Check.coarse(-8));
        board.back(0);
        CHECK.same("the coarse value", board.read(0, 0), Check.coarse(-2));
        CHECK.same("the coarse lowest", board.read(0, 4), Check.coarse(-2));
        CHECK.same("the coarse greatest size", board.read(0, 5), Check.coarse(2));
        CHECK.same("another needle stays", board.read(1, 0), Check.coarse(6));
    }

    private static void wrongOnes() {
        for (int n : new int[] {-1, 2, 7, 8, Integer.MAX_VALUE}) {
            CHECK.refused("back(" + n + ")", NoSuchElementException.class, x -> {
                x.back(n);
                return 0;
            });
        }
    }
}
