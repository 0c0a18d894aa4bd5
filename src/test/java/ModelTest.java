import java.util.ArrayList;
import java.util.List;
import java.util.NoSuchElementException;

/** Long mixed runs against a second reading of the document that reckons with real doubles and floats. */
public final class ModelTest {
    private static final int BOARDS = 4000;
    private static final int CALLS = 500;
    private static final double[] CHOSEN = {
        0.0, -0.0, 1, -1, 0.5, -0.5, 1.5, 2.5, -2.5, 0.1, 3, -7.25, 1e16, Float.MIN_VALUE, -Float.MIN_VALUE,
        Float.MIN_NORMAL, Float.MAX_VALUE, -Float.MAX_VALUE, Double.MIN_VALUE, -Double.MIN_VALUE, Double.MIN_NORMAL,
        Double.MAX_VALUE, -Double.MAX_VALUE, Double.POSITIVE_INFINITY, Double.NEGATIVE_INFINITY, Double.NaN
    };

    private static final Check CHECK = new Check();
    private static final Check.Sequence SEQUENCE = new Check.Sequence(20261116);

    private static final class ModelNeedle {
        final boolean fine;
        final double low;
        final double high;
        double value;
        double step = Double.POSITIVE_INFINITY;
        final List<Double> values = new ArrayList<>();

        ModelNeedle(boolean fine, double low, double high) {
            this.fine = fine;
            this.low = low;
            this.high = high;
            become(0.0);
        }

        void become(double number) {
            value = Double.compare(number, low) < 0 ? low : Double.compare(number, high) > 0 ? high : number;
            values.add(value);
        }

        double plus(double one, double other) {
            return fine ? one + other : (float) one + (float) other;
        }

        double minus(double one, double other) {
            return fine ? one - other : (float) one - (float) other;
        }

        long bits(double number) {
            return fine ? Double.doubleToLongBits(number) : Float.floatToIntBits((float) number);
        }

        double highest() {
            return values.stream().max(Double::compare).get();
        }

        double lowest() {
            return values.stream().min(Double::compare).get();
        }

        double greatestSize() {
            return values.stream().map(Math::abs).max(Double::compare).get();
        }
    }

    private static final class Model {
        final List<ModelNeedle> needles = new ArrayList<>();
        int moves;
        long wide;
        int narrow;

        ModelNeedle at(int n) {
            if (n < 0 || n >= needles.size()) {
                throw new NoSuchElementException();
            }
            return needles.get(n);
        }

        static double number(boolean fine, long bits) {
            double number = fine ? Double.longBitsToDouble(bits) : Float.intBitsToFloat((int) bits);
            if (Double.isNaN(number)) {
                throw new IllegalArgumentException();
            }
            return number;
        }

        static void refuseUnless(boolean known) {
            if (!known) {
                throw new IllegalArgumentException();
            }
        }

        long moved(ModelNeedle needle, double number) {
            needle.become(number);
            moves++;
            return needle.bits(needle.value);
        }

        long needle(boolean fine, long lowBits, long highBits) {
            double low = number(fine, lowBits);
            double high = number(fine, highBits);
            refuseUnless(Double.compare(low, high) <= 0);
            if (needles.size() == 8) {
                throw new IllegalStateException();
            }
            needles.add(new ModelNeedle(fine, low, high));
            return needles.size() - 1;
        }

        long put(int n, long bits) {
            return moved(at(n), number(at(n).fine, bits));
        }

        long turn(int n, long bits) {
            double sum = at(n).plus(at(n).value, number(at(n).fine, bits));
            if (Double.isNaN(sum)) {
                throw new IllegalStateException();
            }
            return moved(at(n), sum);
        }

        long damp(int n, long bits) {
            at(n).step = Math.abs(number(at(n).fine, bits));
            return at(n).bits(at(n).step);
        }

        long pull(int n, long bits) {
            ModelNeedle needle = at(n);
            double target = number(needle.fine, bits);
            double difference = needle.minus(target, needle.value);
            if (needle.value == target || Math.abs(difference) <= needle.step) {
                moved(needle, target);
            } else {
                moved(needle, needle.plus(needle.value, Math.copySign(needle.step, difference)));
            }
            return needle.value == target ? 1 : 0;
        }

        long rest(int n, int way) {
            double value = at(n).value;
            refuseUnless(way >= 0 && way <= 2);
            return moved(at(n), way == 0 ? Math.floor(value) : way == 1 ? Math.ceil(value) : Math.rint(value));
        }

        long face(int n, int m) {
            at(n);
            return moved(at(n), Math.copySign(at(n).value, at(m).value));
        }

        long read(int n, int what) {
            ModelNeedle needle = at(n);
            refuseUnless(what >= 0 && what <= 8);
            double[] told = {needle.value, needle.low, needle.high, needle.highest(), needle.lowest(),
                needle.greatestSize(), needle.step, Math.abs(needle.value), Math.signum(needle.value)};
            return needle.bits(told[what]);
        }

        long between(int n, int m, int what) {
            double one = at(n).value;
            double other = at(m).value;
            refuseUnless(at(n).fine == at(m).fine && what >= 0 && what <= 3);
            double[] told = {Math.min(one, other), Math.max(one, other), Math.min(Math.abs(one), Math.abs(other)),
                Math.max(Math.abs(one), Math.abs(other))};
            return at(n).bits(told[what]);
        }

        long order(int n, int m) {
            return Double.compare(at(n).value, at(m).value);
        }

        long back(int n) {
            at(n).values.clear();
            at(n).become(0.0);
            return 0;
        }

        long tally(boolean isWide, int how, long v) {
            refuseUnless(how >= 0 && how <= 4);
            if (isWide) {
                wide = new long[] {v, Math.max(wide, v), Math.min(wide, v), Math.abs(v),
                    Math.abs(wide) - Math.abs(v)}[how];
                return wide;
            }
            int w = (int) v;
            narrow = new int[] {w, Math.max(narrow, w), Math.min(narrow, w), Math.abs(w),
                Math.abs(narrow) - Math.abs(w)}[how];
            return narrow;
        }

        long count(int what) {
            switch (what) {
                case 0: return needles.size();
                case 1: return needles.stream().filter(x -> x.fine).count();
                case 2: return needles.stream().filter(x -> x.value == 0).count();
                case 3: return needles.stream().filter(x -> x.bits(x.value) == x.bits(x.low)
                        || x.bits(x.value) == x.bits(x.high)).count();
                case 4: return moves;
                default: return -1;
            }
        }
    }

    public static void main(String[] args) {
        for (int i = 0; i < BOARDS; i++) {
            run(i);
        }
        CHECK.end();
    }

    private static void run(int number) {
        NeedleBoard board = new NeedleBoard();
        Model model = new Model();
        for (int i = 0; i < CALLS; i++) {
            int call = i < 3 ? 0 : SEQUENCE.below(30);
            boolean flag = SEQUENCE.below(2) == 0;
            int n = someNeedle(model);
            int m = someNeedle(model);
            int what = SEQUENCE.below(12) - 1;
            boolean fine = call == 0 ? flag : n < 0 || n >= model.needles.size() || model.needles.get(n).fine;
            long a = someBits(fine);
            long b = someBits(fine);
            if (call == 0 && SEQUENCE.below(2) == 0) {
                a = fine ? Check.MINUS_INFINITY : Check.COARSE_MINUS_INFINITY;
                b = fine ? Check.INFINITY : Check.COARSE_INFINITY;
            }
            if (SEQUENCE.below(4) == 0 && n >= 0 && n < model.needles.size()) {
                // Numbers next to the value are where sums cancel.
                ModelNeedle needle = model.needles.get(n);
                long sign = fine ? Long.MIN_VALUE : 1L << 31;
                a = needle.bits(needle.value) + SEQUENCE.below(5) - 2 ^ (SEQUENCE.below(2) == 0 ? 0 : sign);
            }
            long low = a;
            long high = b;
            String told = "run " + number + " call " + i + ": kind " + call + " " + flag + " " + n + " " + m + " "
                    + what + " " + a + " " + b;
            CHECK.same(told, answer(board, x -> real(x, call, flag, n, m, what, low, high)),
                    answer(board, x -> modelled(model, call, flag, n, m, what, low, high)));
        }
    }

    private static long real(NeedleBoard x, int call, boolean flag, int n, int m, int what, long a, long b) {
        switch (call) {
            case 0: return x.needle(flag, a, b);
            case 1: case 2: case 3: return x.put(n, a);
            case 4: case 5: case 6: case 7: return x.turn(n, a);
            case 8: case 9: return x.damp(n, a);
            case 10: case 11: case 12: case 13: return x.pull(n, a) ? 1 : 0;
            case 14: case 15: case 16: return x.rest(n, what % 4);
            case 17: case 18: return x.face(n, m);
            case 19: case 20: case 21: return x.between(n, m, what % 5);
            case 22: case 23: return x.order(n, m);
            case 24: if (what > 0) { return 0; } x.back(n); return 0;
            case 25: return x.tally(flag, what % 6, a);
            case 26: return x.count(what % 6);
            default: return x.read(n, what);
        }
    }

    private static long modelled(Model x, int call, boolean flag, int n, int m, int what, long a, long b) {
        switch (call) {
            case 0: return x.needle(flag, a, b);
            case 1: case 2: case 3: return x.put(n, a);
            case 4: case 5: case 6: case 7: return x.turn(n, a);
            case 8: case 9: return x.damp(n, a);
            case 10: case 11: case 12: case 13: return x.pull(n, a);
            case 14: case 15: case 16: return x.rest(n, what % 4);
            case 17: case 18: return x.face(n, m);
            case 19: case 20: case 21: return x.between(n, m, what % 5);
            case 22: case 23: return x.order(n, m);
            case 24: return what > 0 ? 0 : x.back(n);
            case 25: return x.tally(flag, what % 6, a);
            case 26: return x.count(what % 6);
            default: return x.read(n, what);
        }
    }

    private static String answer(NeedleBoard board, Check.Call call) {
        try {
            return Long.toString(call.on(board));
        } catch (RuntimeException e) {
            return e.getClass().getName();
        }
    }

    private static int someNeedle(Model model) {
        return SEQUENCE.below(40) == 0 ? SEQUENCE.below(12) - 2 : SEQUENCE.below(Math.max(1, model.needles.size()));
    }

    private static long someBits(boolean fine) {
        switch (SEQUENCE.below(4)) {
            case 0: return bitsOf(fine, CHOSEN[SEQUENCE.below(CHOSEN.length)]);
            case 1: return bitsOf(fine, (SEQUENCE.below(4001) - 2000) / 8.0);
            case 2: return bitsOf(fine, SEQUENCE.next() * Math.pow(2, SEQUENCE.below(8) * -10));
            default: return SEQUENCE.next();
        }
    }

    private static long bitsOf(boolean fine, double number) {
        return fine ? Check.fine(number) : Check.coarse((float) number) & 0xffffffffL | (long) SEQUENCE.below(3) << 32;
    }
}
