/** What the tests share: they tell each answer that is not the due one, and end with 1 if there was one. */
final class Check {
    static final long NOUGHT = fine(0.0);
    static final long MINUS_NOUGHT = fine(-0.0);
    static final long INFINITY = fine(Double.POSITIVE_INFINITY);
    static final long MINUS_INFINITY = fine(Double.NEGATIVE_INFINITY);
    static final long COARSE_INFINITY = coarse(Float.POSITIVE_INFINITY);
    static final long COARSE_MINUS_INFINITY = coarse(Float.NEGATIVE_INFINITY);

    /** Quiet and signalling, of either sign, and those next to the infinities. */
    static final long[] FINE_NANS = {
        0x7ff8000000000000L, 0xfff8000000000000L, 0x7ff0000000000001L, 0xfff0000000000001L, Long.MAX_VALUE, -1L
    };
    static final long[] COARSE_NANS = {
        0x7fc00000L, (int) 0xffc00000, 0x7f800001L, (int) 0xff800001, 0x7fffffffL, -1L, 0xffc00000L, 0x17fc00000L
    };

    interface Call {
        long answer();
    }

    private int made;
    private int wrong;

    static long fine(double number) {
        return Double.doubleToLongBits(number);
    }

    static long coarse(float number) {
        return Float.floatToIntBits(number);
    }

    static NeedleBoard boardWithFine(double low, double high) {
        NeedleBoard board = new NeedleBoard();
        board.needle(true, fine(low), fine(high));
        return board;
    }

    static NeedleBoard boardWithCoarse(float low, float high) {
        NeedleBoard board = new NeedleBoard();
        board.needle(false, coarse(low), coarse(high));
        return board;
    }

    static NeedleBoard freeFine() {
        return boardWithFine(Double.NEGATIVE_INFINITY, Double.POSITIVE_INFINITY);
    }

    static NeedleBoard freeCoarse() {
        return boardWithCoarse(Float.NEGATIVE_INFINITY, Float.POSITIVE_INFINITY);
    }

    /** All that a board tells without being changed. */
    static String stateOf(NeedleBoard board) {
        StringBuilder state = new StringBuilder();
        for (int what = 0; what <= 4; what++) {
            state.append(board.count(what)).append(' ');
        }
        for (int n = 0; n < board.count(0); n++) {
            for (int what = 0; what <= 8; what++) {
                state.append(board.read(n, what)).append(' ');
            }
        }
        state.append(board.tally(true, 1, Long.MIN_VALUE)).append(' ');
        state.append(board.tally(false, 1, Integer.MIN_VALUE));
        return state.toString();
    }

    void same(String what, long got, long due) {
        made++;
        if (got != due) {
            tell(what + " answered " + got + ", due is " + due);
        }
    }

    void same(String what, String got, String due) {
        made++;
        if (!got.equals(due)) {
            tell(what + " is " + got + ", due is " + due);
        }
    }

    void yes(String what, boolean got) {
        same(what, got ? 1 : 0, 1);
    }

    void no(String what, boolean got) {
        same(what, got ? 1 : 0, 0);
    }

    /** The call throws exactly this, and the board is then as it was. */
    void refused(String what, Class<? extends RuntimeException> due, NeedleBoard board, Call call) {
        String before = stateOf(board);
        String got;
        try {
            got = "the answer " + call.answer();
        } catch (RuntimeException e) {
            got = e.getClass().getName();
        }
        same(what, got, due.getName());
        same("the board after " + what, stateOf(board), before);
    }

    void end() {
        System.out.println(made + " checks, " + wrong + " wrong");
        if (wrong != 0 || made == 0) {
            System.exit(1);
        }
    }

    private void tell(String text) {
        wrong++;
        if (wrong <= 20) {
            System.out.println(text);
        }
    }
}
