/** Promise 13. */
public final class TallyTest {
    private static final Check CHECK = new Check();
    private static final long[] NUMBERS = {
        0, 1, -1, 5, -5, Integer.MAX_VALUE, Integer.MIN_VALUE, Integer.MAX_VALUE + 1L, Integer.MIN_VALUE - 1L,
        0xffffffffL, 0x100000000L, 0x180000000L, -0x100000001L, Long.MAX_VALUE, Long.MIN_VALUE, Long.MIN_VALUE + 1
    };

    public static void main(String[] args) {
        for (long old : NUMBERS) {
            for (long v : NUMBERS) {
                wide(old, v);
                narrow(old, v);
            }
        }
        examples();
        wrongOnes();
        CHECK.end();
    }

    private static void wide(long old, long v) {
        long[] due = {v, Math.max(old, v), Math.min(old, v), Math.abs(v), Math.abs(old) - Math.abs(v)};
        for (int how = 0; how < due.length; how++) {
            NeedleBoard board = new NeedleBoard();
            CHECK.same("wide " + old, board.tally(true, 0, old), old);
            CHECK.same("wide " + old + " by " + how + " with " + v, board.tally(true, how, v), due[how]);
            CHECK.same("what it is then", board.tally(true, 1, Long.MIN_VALUE), due[how]);
            CHECK.same("the narrow one stays", board.tally(false, 1, Integer.MIN_VALUE), 0);
        }
    }

    private static void narrow(long old, long v) {
        int first = (int) old;
        int second = (int) v;
        int[] due = {second, Math.max(first, second), Math.min(first, second), Math.abs(second),
            Math.abs(first) - Math.abs(second)};
        for (int how = 0; how < due.length; how++) {
            NeedleBoard board = new NeedleBoard();
            CHECK.same("narrow " + old, board.tally(false, 0, old), first);
            CHECK.same("narrow " + old + " by " + how + " with " + v, board.tally(false, how, v), due[how]);
            CHECK.same("what it is then", board.tally(false, 1, Integer.MIN_VALUE), due[how]);
            CHECK.same("the wide one stays", board.tally(true, 1, Long.MIN_VALUE), 0);
        }
    }

    private static void examples() {
        NeedleBoard board = new NeedleBoard();
        CHECK.same("put", board.tally(true, 0, -9), -9);
        CHECK.same("own size less v's", board.tally(true, 4, -2), 7);
        CHECK.same("the greater", board.tally(true, 1, 8), 8);
        CHECK.same("the lesser", board.tally(true, 2, -8), -8);
        CHECK.same("the size", board.tally(true, 3, Long.MIN_VALUE), Long.MIN_VALUE);
        CHECK.same("wrapping", board.tally(true, 4, 1), Long.MAX_VALUE);
        CHECK.same("the narrow size", board.tally(false, 3, Integer.MIN_VALUE), Integer.MIN_VALUE);
        CHECK.same("wrapping narrowly", board.tally(false, 4, 1), Integer.MAX_VALUE);
        CHECK.same("tallies are no moves", board.count(4), 0);
    }

    private static void wrongOnes() {
        for (int how : new int[] {-1, 5, Integer.MAX_VALUE, Integer.MIN_VALUE}) {
            CHECK.refused("tally(true, " + how + ", 1)", IllegalArgumentException.class,
                    x -> x.tally(true, how, 1));
            CHECK.refused("tally(false, " + how + ", 1)", IllegalArgumentException.class,
                    x -> x.tally(false, how, 1));
        }
    }
}
