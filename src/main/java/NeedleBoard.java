import java.util.NoSuchElementException;

/** A board of needles between limits, and two tallies; ../shared/DOC.md has its promises. */
public final class NeedleBoard {
    public static final int NONE = -1;

    private static final int MOST_NEEDLES = 8;
    private static final int LAST_HOW = 4;

    private final Needle[] needles;
    private int made;
    private int moves;
    private long wideTally;
    private int narrowTally;

    public NeedleBoard() {
        needles = new Needle[MOST_NEEDLES];
    }

    public int needle(boolean fine, long low, long high)
            throws IllegalArgumentException, IllegalStateException {
        Kind kind = fine ? Kind.FINE : Kind.COARSE;
        long lowLimit = numberFrom(kind, low);
        long highLimit = numberFrom(kind, high);
        if (kind.isBelow(highLimit, lowLimit)) {
            throw new IllegalArgumentException("the low limit is above the high one");
        }
        if (made >= needles.length) {
            throw new IllegalStateException("the board is full");
        }
        needles[made] = new Needle(kind, lowLimit, highLimit);
        made++;
        return made - 1;
    }

    public long put(int n, long bits) throws NoSuchElementException, IllegalArgumentException {
        Needle needle = needleAt(n);
        needle.moveTo(numberFrom(needle.kind, bits));
        moves++;
        return needle.value;
    }

    public long turn(int n, long bits)
            throws NoSuchElementException, IllegalArgumentException, IllegalStateException {
        Needle needle = needleAt(n);
        long number = numberFrom(needle.kind, bits);
        if (needle.kind.areOppositeInfinities(needle.value, number)) {
            throw new IllegalStateException("opposite infinities have no sum");
        }
        needle.moveTo(needle.kind.sum(needle.value, number));
        moves++;
        return needle.value;
    }

    public long damp(int n, long bits) throws NoSuchElementException, IllegalArgumentException {
        Needle needle = needleAt(n);
        needle.step = needle.kind.sizeOf(numberFrom(needle.kind, bits));
        return needle.step;
    }

    public boolean pull(int n, long bits) throws NoSuchElementException, IllegalArgumentException {
        Needle needle = needleAt(n);
        long target = numberFrom(needle.kind, bits);
        needle.moveTo(needle.stepTowards(target));
        moves++;
        return needle.kind.areAlike(needle.value, target);
    }

    public long rest(int n, int way) throws NoSuchElementException, IllegalArgumentException {
        Needle needle = needleAt(n);
        if (way < Kind.DOWN || way > Kind.NEAREST) {
            throw new IllegalArgumentException("there is no such way to rest");
        }
        needle.moveTo(needle.kind.wholeOf(needle.value, way));
        moves++;
        return needle.value;
    }

    public long face(int n, int m) throws NoSuchElementException {
        Needle needle = needleAt(n);
        Needle other = needleAt(m);
        needle.moveTo(needle.kind.withSideOf(needle.value, other.value));
        moves++;
        return needle.value;
    }

    public long read(int n, int what) throws NoSuchElementException, IllegalArgumentException {
        Needle needle = needleAt(n);
        switch (what) {
            case 0: return needle.value;
            case 1: return needle.low;
            case 2: return needle.high;
            case 3: return needle.highest;
            case 4: return needle.lowest;
            case 5: return needle.greatestSize;
            case 6: return needle.step;
            case 7: return needle.kind.sizeOf(needle.value);
            case 8: return needle.kind.unitOf(needle.value);
            default: throw new IllegalArgumentException("there is no such thing to read");
        }
    }

    public long between(int n, int m, int what)
            throws NoSuchElementException, IllegalArgumentException {
        Needle one = needleAt(n);
        Needle other = needleAt(m);
        Kind kind = one.kind;
        if (kind != other.kind) {
            throw new IllegalArgumentException("the needles are of two kinds");
        }
        switch (what) {
            case 0: return kind.lesserOf(one.value, other.value);
            case 1: return kind.greaterOf(one.value, other.value);
            case 2: return Math.min(kind.sizeOf(one.value), kind.sizeOf(other.value));
            case 3: return Math.max(kind.sizeOf(one.value), kind.sizeOf(other.value));
            default: throw new IllegalArgumentException("there is no such thing between needles");
        }
    }

    public int order(int n, int m) throws NoSuchElementException {
        long one = needleAt(n).fineValue();
        long other = needleAt(m).fineValue();
        if (Kind.FINE.isBelow(one, other)) {
            return -1;
        }
        return one == other ? 0 : 1;
    }

    public void back(int n) throws NoSuchElementException {
        needleAt(n).startAgain();
    }

    public long tally(boolean wide, int how, long v) throws IllegalArgumentException {
        if (how < 0 || how > LAST_HOW) {
            throw new IllegalArgumentException("there is no such way to tally");
        }
        if (wide) {
            wideTally = tallied(how, wideTally, v);
            return wideTally;
        }
        // The cast wraps a long as int arithmetic would have: sums agree in their lower 32 bits.
        narrowTally = (int) tallied(how, narrowTally, (int) v);
        return narrowTally;
    }

    public int count(int what) {
        switch (what) {
            case 0: return made;
            case 1:
            case 2:
            case 3: return countNeedles(what);
            case 4: return moves;
            default: return NONE;
        }
    }

    private Needle needleAt(int n) {
        Needle found = n < 0 || n >= needles.length ? null : needles[n];
        if (found == null) {
            throw new NoSuchElementException("there is no such needle");
        }
        return found;
    }

    private static long numberFrom(Kind kind, long bits) {
        long number = kind.trimmed(bits);
        if (!kind.isNumber(number)) {
            throw new IllegalArgumentException("these bits tell no number");
        }
        return number;
    }

    private static long tallied(int how, long old, long v) {
        switch (how) {
            case 0: return v;
            case 1: return Math.max(old, v);
            case 2: return Math.min(old, v);
            case 3: return Math.abs(v);
            default: return Math.abs(old) - Math.abs(v);
        }
    }

    private int countNeedles(int what) {
        int found = 0;
        for (Needle needle : needles) {
            if (needle != null && needle.isCounted(what)) {
                found++;
            }
        }
        return found;
    }

    /** One needle; each of its numbers is held as its bits. */
    private static final class Needle {
        final Kind kind;
        final long low;
        final long high;
        long value;
        long step;
        long highest;
        long lowest;
        long greatestSize;

        Needle(Kind kind, long low, long high) {
            this.kind = kind;
            this.low = low;
            this.high = high;
            step = kind.infinity;
            startAgain();
        }

        void startAgain() {
            value = withinLimits(Kind.NOUGHT);
            highest = value;
            lowest = value;
            greatestSize = kind.sizeOf(value);
        }

        void moveTo(long number) {
            value = withinLimits(number);
            highest = kind.greaterOf(highest, value);
            lowest = kind.lesserOf(lowest, value);
            greatestSize = Math.max(greatestSize, kind.sizeOf(value));
        }

        long stepTowards(long target) {
            // Looked at first, for two infinities that are alike have no difference.
            if (kind.areAlike(value, target)) {
                return target;
            }
            long difference = kind.sum(target, kind.negated(value));
            if (kind.sizeOf(difference) <= step) {
                return target;
            }
            return kind.sum(value, kind.withSideOf(step, difference));
        }

        long fineValue() {
            return kind == Kind.FINE ? value : Kind.fineFromCoarse(value);
        }

        boolean isCounted(int what) {
            switch (what) {
                case 1: return kind == Kind.FINE;
                case 2: return kind.sizeOf(value) == Kind.NOUGHT;
                default: return value == low || value == high;
            }
        }

        private long withinLimits(long number) {
            return kind.lesserOf(kind.greaterOf(number, low), high);
        }
    }

    /**
     * The numbers of double and of float, told and reckoned with by their bits alone, since
     * LANGUAGE.md leaves no way from bits to a double and back. Coarse bits are an int made a
     * long, so that a number of either kind has the negative side just where its bits are below 0.
     */
    private enum Kind {
        FINE(52, 1023, 0x8000000000000000L),
        COARSE(23, 127, 0xffffffff80000000L);

        static final long NOUGHT = 0L;
        static final int DOWN = 0;
        static final int UP = 1;
        static final int NEAREST = 2;

        // A guard, a round and a sticky bit are what a sum needs to be rounded rightly.
        private static final int SPARE_BITS = 3;
        private static final long SPARE_MASK = 7L;
        private static final long SPARE_HALF = 4L;
        private static final int LONG_BITS = 64;

        final int fractionBits;
        final int bias;
        final long sideBits;
        final long hiddenBit;
        final long one;
        final long infinity;

        Kind(int fractionBits, int bias, long sideBits) {
            this.fractionBits = fractionBits;
            this.bias = bias;
            this.sideBits = sideBits;
            hiddenBit = 1L << fractionBits;
            one = (long) bias << fractionBits;
            infinity = (2L * bias + 1L) << fractionBits;
        }

        static long fineFromCoarse(long number) {
            long size = COARSE.sizeOf(number);
            long fineSize;
            if (size == NOUGHT) {
                fineSize = NOUGHT;
            } else if (size == COARSE.infinity) {
                fineSize = FINE.infinity;
            } else {
                int widening = FINE.fractionBits - COARSE.fractionBits + SPARE_BITS;
                int exponent = COARSE.exponentOf(size) - COARSE.bias + FINE.bias;
                fineSize = FINE.sizeFrom(COARSE.significandOf(size) << widening, exponent);
            }
            return FINE.withSideOf(fineSize, number);
        }

        long trimmed(long bits) {
            return this == COARSE ? (int) bits : bits;
        }

        boolean isNumber(long bits) {
            return sizeOf(bits) <= infinity;
        }

        long sizeOf(long number) {
            return number & ~sideBits;
        }

        long withSideOf(long number, long other) {
            return other < 0 ? number | sideBits : sizeOf(number);
        }

        long negated(long number) {
            return number < 0 ? sizeOf(number) : number | sideBits;
        }

        long unitOf(long number) {
            return sizeOf(number) == NOUGHT ? number : withSideOf(one, number);
        }

        boolean isBelow(long number, long other) {
            return rankOf(number) < rankOf(other);
        }

        long lesserOf(long number, long other) {
            return isBelow(other, number) ? other : number;
        }

        long greaterOf(long number, long other) {
            return isBelow(number, other) ? other : number;
        }

        boolean areAlike(long number, long other) {
            return number == other || sizeOf(number) == NOUGHT && sizeOf(other) == NOUGHT;
        }

        boolean areOppositeInfinities(long number, long other) {
            return sizeOf(number) == infinity && other == negated(number);
        }

        /** The sum as + has it; the caller keeps opposite infinities away. */
        long sum(long number, long other) {
            return sizeOf(number) < sizeOf(other)
                    ? sumByLarger(other, number)
                    : sumByLarger(number, other);
        }

        long wholeOf(long number, int way) {
            long size = sizeOf(number);
            int exponent = exponentOf(size) - bias;
            if (size == NOUGHT || exponent >= fractionBits) {
                return number;
            }
            long wholeSize = exponent < 0
                    ? wholeOfPart(number, way)
                    : wholeOfMixed(number, way, fractionBits - exponent);
            return withSideOf(wholeSize, number);
        }

        // A negative number's rank falls as its size grows, and that of -0.0 is just below 0.
        private long rankOf(long number) {
            return number < 0 ? number ^ ~sideBits : number;
        }

        // Subnormal numbers have the exponent of the least normal ones, but no hidden bit.
        private int exponentOf(long size) {
            return Math.max(1, (int) (size >> fractionBits));
        }

        private long significandOf(long size) {
            long fraction = size & (hiddenBit - 1L);
            return size < hiddenBit ? fraction : fraction | hiddenBit;
        }

        private long sumByLarger(long larger, long smaller) {
            long largerSize = sizeOf(larger);
            if (largerSize == infinity) {
                return larger;
            }
            long smallerSize = sizeOf(smaller);
            int exponent = exponentOf(largerSize);
            long main = significandOf(largerSize) << SPARE_BITS;
            long added = shiftedDown(significandOf(smallerSize) << SPARE_BITS,
                    exponent - exponentOf(smallerSize));
            boolean oneSided = (larger < 0) == (smaller < 0);
            long scaled = oneSided ? main + added : main - added;
            if (scaled == 0) {
                return oneSided ? larger : NOUGHT;
            }
            return withSideOf(sizeFrom(scaled, exponent), larger);
        }

        // The last bit stays set if a bit was lost, so that rounding still sees that there was more.
        private static long shiftedDown(long significand, int places) {
            if (places >= LONG_BITS) {
                return significand == 0 ? 0L : 1L;
            }
            long shifted = significand >> places;
            return shifted << places == significand ? shifted : shifted | 1L;
        }

        /** The size that scaled, a significand above 0 with spare bits, has with that exponent. */
        private long sizeFrom(long scaled, int exponent) {
            long top = hiddenBit << SPARE_BITS;
            long significand = scaled;
            int place = exponent;
            if (significand >= top << 1) {
                significand = shiftedDown(significand, 1);
                place++;
            }
            for (int i = 0; i < LONG_BITS && significand < top && place > 1; i++) {
                significand <<= 1;
                place--;
            }
            if (place > 2 * bias) {
                return infinity;
            }
            // Added, not joined: the hidden bit, and a carry of the rounding, belong to the exponent.
            return ((place - 1L) << fractionBits) + roundedOff(significand);
        }

        private static long roundedOff(long scaled) {
            long kept = scaled >> SPARE_BITS;
            return isRoundedUp(scaled & SPARE_MASK, SPARE_HALF, kept) ? kept + 1L : kept;
        }

        private static boolean isRoundedUp(long part, long half, long kept) {
            return part > half || part == half && (kept & 1L) == 1L;
        }

        private long wholeOfPart(long number, int way) {
            // Bits of sizes are ordered as the sizes are, and a half has the exponent below that of 1.
            long half = one - hiddenBit;
            boolean grows = way == NEAREST ? sizeOf(number) > half : growsBy(way, number);
            return grows ? one : NOUGHT;
        }

        private long wholeOfMixed(long number, int way, int partBits) {
            long size = sizeOf(number);
            long unit = 1L << partBits;
            long part = size & (unit - 1L);
            long below = size - part;
            if (part == 0) {
                return size;
            }
            boolean grows = way == NEAREST
                    ? isRoundedUp(part, unit >> 1, significandOf(size) >> partBits)
                    : growsBy(way, number);
            // The sum carries into the exponent where the next whole number is a power of two.
            return grows ? below + unit : below;
        }

        private static boolean growsBy(int way, long number) {
            return way == UP ? number >= 0 : number < 0;
        }
    }
}
