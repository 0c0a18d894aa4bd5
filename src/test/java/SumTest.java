/** Promises 4 and 6 rest on sums: very many of them, with exponents that lie close, are what + answers. */
public final class SumTest {
    private static final int BOARDS = 6000;
    private static final int SUMS = 200;

    private static final Check.Sequence SEQUENCE = new Check.Sequence(77);

    public static void main(String[] args) {
        Check check = new Check();
        for (int i = 0; i < BOARDS; i++) {
            NeedleBoard fine = Check.freeFine();
            NeedleBoard coarse = Check.freeCoarse();
            for (int k = 0; k < SUMS; k++) {
                fineSum(check, fine, SEQUENCE.next(), SEQUENCE.next(), SEQUENCE.next());
                coarseSum(check, coarse, (int) SEQUENCE.next(), (int) SEQUENCE.next(), SEQUENCE.next());
            }
        }
        check.end();
    }

    private static void fineSum(Check check, NeedleBoard board, long one, long mixed, long choice) {
        int gap = (int) Math.floorMod(choice, 120L) - 60;
        long exponent = Math.min(2046, Math.max(0, (one >>> 52 & 2047) + gap));
        long other = mixed & 0x800fffffffffffffL & thinned(choice, 52) | exponent << 52;
        double sum = Double.longBitsToDouble(one) + Double.longBitsToDouble(other);
        if (!Double.isNaN(sum)) {
            board.put(0, one);
            check.same(one + " and " + other, board.turn(0, other), Check.fine(sum));
        }
    }

    private static void coarseSum(Check check, NeedleBoard board, int one, int mixed, long choice) {
        int gap = (int) Math.floorMod(choice, 60L) - 30;
        int exponent = Math.min(254, Math.max(0, (one >>> 23 & 255) + gap));
        int other = mixed & 0x807fffff & (int) thinned(choice, 23) | exponent << 23;
        float sum = Float.intBitsToFloat(one) + Float.intBitsToFloat(other);
        if (!Float.isNaN(sum)) {
            board.put(0, one);
            check.same(one + " and coarse " + other, board.turn(0, other), Check.coarse(sum));
        }
    }

    // Fractions with many noughts at their end are those whose sums lie half way.
    private static long thinned(long choice, int bits) {
        return (choice >>> 32) % 2 == 0 ? -1L : -1L << (choice >>> 40) % bits;
    }
}
