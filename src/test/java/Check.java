/** What the tests share: they tell each answer that is not the due one, and end with 1 if there was one. */
final class Check {
    static final long NOUGHT = fine(0.0);
    static final long MINUS_NOUGHT = fine(-0.0);
    static final long INFINITY = fine(Double.POSITIVE_INFINITY);
    static final long MINUS_INFINITY = fine(Double.NEGATIVE_INFINITY);
    static final long COARSE_INFINITY = coarse(Float.POSITIVE_INFINITY);
    static final long COARSE_MINUS_INFINITY = coarse(Float.NEGATIVE_INFINITY);

    /** Quiet and signalling, of either sign, and those next to the infinities. */
    static final long[] FINE_NANS = {
        0x7ff8000000000000L, 0xfff8000000000000L, 0x7ff0000000000001L, 0xfff0000000000001L, Long.MAX_VALUE, -1L
    };
    static final long[] COARSE_NANS = {
        0x7fc00000L, (int) 0xffc00000, 0x7f800001L, (int) 0xff800001, 0x7fffffffL, -1L, 0xffc00000L, 0x17fc00000L
    };

    interface Maker {
        NeedleBoard board();
    }

    interface KindTest {
        void of(boolean fine);
    }

    interface Call {
        long on(NeedleBoard board);
    }

    /** Numbers that look thrown, but are the same in every run of a test. */
    static final class Sequence {
        private long seed;

        Sequence(long seed) {
            this.seed = seed;
        }

        long next() {
            seed += 0x9e3779b97f4a7c15L;
            long mixed = (seed ^ seed >>> 30) * 0xbf58476d1ce4e5b9L;
            mixed = (mixed ^ mixed >>> 27) * 0x94d049bb133111ebL;
            return mixed ^ mixed >>> 31;
        }

        int below(int bound) {
            return (int) Math.floorMod(next() >> 17, (long) bound);
        }
    }

    private int made;
    private int wrong;
    private String sentence = "";
    private int told;

    static long fine(double number) {
        return Double.doubleToLongBits(number);
    }

    static long coarse(float number) {
        return Float.floatToIntBits(number);
    }

    static NeedleBoard boardWithFine(double low, double high) {
        NeedleBoard board = new NeedleBoard();
        board.needle(true, fine(low), fine(high));
        return board;
    }

    static NeedleBoard boardWithCoarse(float low, float high) {
        NeedleBoard board = new NeedleBoard();
        board.needle(false, coarse(low), coarse(high));
        return board;
    }

    /** The bits of a number of either kind. */
    static long bits(boolean fine, double number) {
        return fine ? fine(number) : coarse((float) number);
    }

    static long[] nans(boolean fine) {
        return fine ? FINE_NANS : COARSE_NANS;
    }

    static double least(boolean fine) {
        return fine ? Double.MIN_VALUE : Float.MIN_VALUE;
    }

    static double most(boolean fine) {
        return fine ? Double.MAX_VALUE : Float.MAX_VALUE;
    }

    static double nextUp(boolean fine, double number) {
        return fine ? Math.nextUp(number) : Math.nextUp((float) number);
    }

    static double nextDown(boolean fine, double number) {
        return -nextUp(fine, -number);
    }

    static NeedleBoard boardWith(boolean fine, double low, double high) {
        return fine ? boardWithFine(low, high) : boardWithCoarse((float) low, (float) high);
    }

    static NeedleBoard free(boolean fine) {
        return fine ? freeFine() : freeCoarse();
    }

    /** One needle of that kind, without limits, that has been put to a number. */
    static NeedleBoard freeAt(boolean fine, double number) {
        NeedleBoard board = free(fine);
        board.put(0, bits(fine, number));
        return board;
    }

    /** Two such needles. */
    static NeedleBoard freePair(boolean fine, double one, double other) {
        NeedleBoard board = freeAt(fine, one);
        board.needle(fine, bits(fine, Double.NEGATIVE_INFINITY), bits(fine, Double.POSITIVE_INFINITY));
        board.put(1, bits(fine, other));
        return board;
    }

    static NeedleBoard fullBoard() {
        NeedleBoard board = new NeedleBoard();
        for (int n = 0; n < 8; n++) {
            board.needle(n < 3, 0, 0);
        }
        return board;
    }

    static NeedleBoard freeFine() {
        return boardWithFine(Double.NEGATIVE_INFINITY, Double.POSITIVE_INFINITY);
    }

    static NeedleBoard freeCoarse() {
        return boardWithCoarse(Float.NEGATIVE_INFINITY, Float.POSITIVE_INFINITY);
    }

    /** A fine needle at 1.5 and a coarse one at -2.5, with all that a refused call could spoil set to something. */
    static NeedleBoard boardInUse() {
        NeedleBoard board = freeFine();
        board.needle(false, COARSE_MINUS_INFINITY, COARSE_INFINITY);
        board.put(0, fine(-7));
        board.put(0, fine(1.5));
        board.put(1, coarse(4));
        board.put(1, coarse(-2.5f));
        board.damp(0, fine(0.5));
        board.damp(1, coarse(0.5f));
        board.tally(true, 0, 11);
        board.tally(false, 0, 12);
        return board;
    }

    /** All that a board tells without being changed. */
    static String stateOf(NeedleBoard board) {
        StringBuilder state = new StringBuilder();
        for (int what = 0; what <= 4; what++) {
            state.append(board.count(what)).append(' ');
        }
        for (int n = 0; n < board.count(0); n++) {
            for (int what = 0; what <= 8; what++) {
                state.append(board.read(n, what)).append(' ');
            }
        }
        state.append(board.tally(true, 1, Long.MIN_VALUE)).append(' ');
        state.append(board.tally(false, 1, Integer.MIN_VALUE));
        return state.toString();
    }

    /** A test of one sentence of the document; whatever it throws is told, and the others are run all the same. */
    void sentence(String text, Runnable test) {
        sentence = text;
        told = 0;
        int madeBefore = made;
        try {
            test.run();
        } catch (RuntimeException e) {
            tell("threw " + e);
        }
        if (made == madeBefore) {
            tell("nothing was checked");
        }
        sentence = "";
    }

    /** The same with fine needles, and then with coarse ones. */
    void eachKind(String text, KindTest test) {
        sentence(text + " - FINE", () -> test.of(true));
        sentence(text + " - COARSE", () -> test.of(false));
    }

    void same(String what, long got, long due) {
        made++;
        if (got != due) {
            tell(what + " answered " + got + ", due is " + due);
        }
    }

    void same(String what, String got, String due) {
        made++;
        if (!got.equals(due)) {
            tell(what + " is " + got + ", due is " + due);
        }
    }

    void yes(String what, boolean got) {
        same(what, got ? 1 : 0, 1);
    }

    void no(String what, boolean got) {
        same(what, got ? 1 : 0, 0);
    }

    void refused(String what, Class<? extends RuntimeException> due, Call call) {
        refused(what, due, Check::boardInUse, call);
    }

    /** The call throws exactly this, and the board, a fresh one since its calls are numbered, is then as it was. */
    void refused(String what, Class<? extends RuntimeException> due, Maker maker, Call call) {
        NeedleBoard board = maker.board();
        String before = stateOf(board);
        String got;
        try {
            got = "the answer " + call.on(board);
        } catch (RuntimeException e) {
            got = e.getClass().getName();
        }
        same(what, got, due.getName());
        same("the board after " + what, stateOf(board), before);
    }

    void end() {
        System.out.println(made + " checks, " + wrong + " wrong");
        if (wrong != 0 || made == 0) {
            System.exit(1);
        }
    }

    private void tell(String text) {
        wrong++;
        told++;
        if (told <= 20) {
            System.out.println(sentence.isEmpty() ? text : "[" + sentence + "] " + text);
        }
    }
}
