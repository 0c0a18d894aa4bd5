/** The boundary cases of promise 13, each sentence in a method of its own. */
public final class TallyBoundaryTest {
    private static final Check CHECK = new Check();
    private static final long LEAST_INT = Integer.MIN_VALUE;
    private static final long LEAST_LONG = Long.MIN_VALUE;

    public static void main(String[] args) {
        CHECK.sentence("Promise 13: the narrow one: of v the lower 32 bits count then",
                TallyBoundaryTest::lowerBitsAlone);
        CHECK.sentence("Promise 13: the wide one, a long", TallyBoundaryTest::wideKeepsAllBits);
        CHECK.sentence("Promise 13: it becomes v (how 0)", TallyBoundaryTest::becomesV);
        CHECK.sentence("Promise 13: the greater one of both (1)", TallyBoundaryTest::greaterOne);
        CHECK.sentence("Promise 13: the lesser one (2)", TallyBoundaryTest::lesserOne);
        CHECK.sentence("Promise 13: the size of v (3; of the least number there is that number)",
                TallyBoundaryTest::sizeOfTheLeast);
        CHECK.sentence("Promise 13: its own size less v's, wrapping as its kind does (4; wide)",
                TallyBoundaryTest::wrapsWide);
        CHECK.sentence("Promise 13: its own size less v's, wrapping as its kind does (4; narrow)",
                TallyBoundaryTest::wrapsNarrow);
        CHECK.sentence("Promise 13: A tally: the wide one, or the narrow one", TallyBoundaryTest::twoTallies);
        CHECK.sentence("Promise 13: IllegalArgumentException: another how", TallyBoundaryTest::anotherHow);
        CHECK.end();
    }

    private static void tallied(boolean wide, long old, int how, long v, long due) {
        NeedleBoard board = new NeedleBoard();
        board.tally(wide, 0, old);
        String call = (wide ? "wide " : "narrow ") + old + " how " + how + " with " + v;
        CHECK.same(call, board.tally(wide, how, v), due);
        CHECK.same("what it is then", board.tally(wide, 1, wide ? LEAST_LONG : LEAST_INT), due);
    }

    private static void lowerBitsAlone() {
        tallied(false, 0, 0, 0x100000005L, 5);
        tallied(false, 0, 0, 0x80000000L, LEAST_INT);
        tallied(false, 0, 0, 0xffffffffL, -1);
        tallied(false, 0, 0, Long.MAX_VALUE, -1);
        tallied(false, 0, 0, LEAST_LONG, 0);
        tallied(false, 3, 1, 0x100000005L, 5);
        tallied(false, 3, 1, 0xffffffffL, 3);
        tallied(false, 3, 2, 0x100000005L, 3);
        tallied(false, 3, 2, 0xffffffffL, -1);
        tallied(false, 3, 3, 0xfffffffeL, 2);
        tallied(false, 3, 4, 0xffffffffL, 2);
    }

    private static void wideKeepsAllBits() {
        tallied(true, 0, 0, 0x100000005L, 0x100000005L);
        tallied(true, 0, 0, LEAST_LONG, LEAST_LONG);
        tallied(true, 0, 1, Long.MAX_VALUE, Long.MAX_VALUE);
        tallied(true, 0, 3, LEAST_INT, 0x80000000L);
        tallied(true, 0x80000000L, 4, 1, 0x7fffffffL);
    }

    private static void becomesV() {
        tallied(true, 9, 0, -9, -9);
        tallied(false, 9, 0, -9, -9);
        tallied(true, LEAST_LONG, 0, 0, 0);
    }

    private static void greaterOne() {
        tallied(true, LEAST_LONG, 1, Long.MAX_VALUE, Long.MAX_VALUE);
        tallied(true, Long.MAX_VALUE, 1, LEAST_LONG, Long.MAX_VALUE);
        tallied(true, -5, 1, 4, 4);
        tallied(true, -5, 1, -5, -5);
        tallied(false, LEAST_INT, 1, Integer.MAX_VALUE, Integer.MAX_VALUE);
        tallied(false, Integer.MAX_VALUE, 1, LEAST_INT, Integer.MAX_VALUE);
        tallied(false, -5, 1, 4, 4);
    }

    private static void lesserOne() {
        tallied(true, LEAST_LONG, 2, Long.MAX_VALUE, LEAST_LONG);
        tallied(true, Long.MAX_VALUE, 2, LEAST_LONG, LEAST_LONG);
        tallied(true, -5, 2, 4, -5);
        tallied(true, -5, 2, -5, -5);
        tallied(false, LEAST_INT, 2, Integer.MAX_VALUE, LEAST_INT);
        tallied(false, Integer.MAX_VALUE, 2, LEAST_INT, LEAST_INT);
        tallied(false, 4, 2, -5, -5);
    }

    private static void sizeOfTheLeast() {
        tallied(true, 7, 3, LEAST_LONG, LEAST_LONG);
        tallied(true, 7, 3, LEAST_LONG + 1, Long.MAX_VALUE);
        tallied(true, 7, 3, Long.MAX_VALUE, Long.MAX_VALUE);
        tallied(true, 7, 3, -1, 1);
        tallied(true, 7, 3, 0, 0);
        tallied(false, 7, 3, LEAST_INT, LEAST_INT);
        tallied(false, 7, 3, LEAST_INT + 1, Integer.MAX_VALUE);
        tallied(false, 7, 3, 0x80000000L, LEAST_INT);
        tallied(false, 7, 3, -1, 1);
    }

    private static void wrapsWide() {
        tallied(true, -9, 4, -2, 7);
        tallied(true, 2, 4, 9, -7);
        tallied(true, 0, 4, Long.MAX_VALUE, -Long.MAX_VALUE);
        tallied(true, LEAST_LONG, 4, 1, Long.MAX_VALUE);
        tallied(true, LEAST_LONG, 4, LEAST_LONG, 0);
        tallied(true, LEAST_LONG, 4, 0, LEAST_LONG);
        tallied(true, 0, 4, LEAST_LONG, LEAST_LONG);
        tallied(true, 1, 4, LEAST_LONG, LEAST_LONG + 1);
        tallied(true, LEAST_LONG, 4, Long.MAX_VALUE, 1);
    }

    private static void wrapsNarrow() {
        tallied(false, -9, 4, -2, 7);
        tallied(false, 2, 4, 9, -7);
        tallied(false, 0, 4, Integer.MAX_VALUE, -Integer.MAX_VALUE);
        tallied(false, LEAST_INT, 4, 1, Integer.MAX_VALUE);
        tallied(false, LEAST_INT, 4, LEAST_INT, 0);
        tallied(false, LEAST_INT, 4, 0, LEAST_INT);
        tallied(false, 0, 4, LEAST_INT, LEAST_INT);
        tallied(false, 1, 4, LEAST_INT, LEAST_INT + 1);
        tallied(false, LEAST_INT, 4, Integer.MAX_VALUE, 1);
    }

    private static void twoTallies() {
        NeedleBoard board = new NeedleBoard();
        board.tally(true, 0, 5);
        CHECK.same("the narrow one stays 0", board.tally(false, 1, LEAST_INT), 0);
        board.tally(false, 0, 6);
        CHECK.same("the wide one stays", board.tally(true, 1, LEAST_LONG), 5);
        board.tally(true, 0, LEAST_LONG);
        CHECK.same("the narrow one stays", board.tally(false, 1, LEAST_INT), 6);
    }

    private static void anotherHow() {
        for (int how : new int[] {-1, 5, Integer.MIN_VALUE, Integer.MAX_VALUE}) {
            for (boolean wide : new boolean[] {true, false}) {
                CHECK.refused("tally how " + how, IllegalArgumentException.class, x -> x.tally(wide, how, 1));
            }
        }
    }
}
