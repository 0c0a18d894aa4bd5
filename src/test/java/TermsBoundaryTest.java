import java.util.NoSuchElementException;

/** The boundary cases that the section "Terms" and the document's head name, each sentence in a method of its own. */
public final class TermsBoundaryTest {
    private static final Check CHECK = new Check();
    private static final double INF = Double.POSITIVE_INFINITY;
    private static final int MOST_CALLS = 512;

    public static void main(String[] args) {
        CHECK.sentence("An object is used for at most 512 calls", TermsBoundaryTest::lastPromisedCall);
        CHECK.eachKind("both noughts, and both infinities are some",
                TermsBoundaryTest::noughtsAndInfinitiesAreNumbers);
        CHECK.eachKind("BITS that tell a NaN of the kind tell NO NUMBER", TermsBoundaryTest::nanIsNone);
        CHECK.eachKind("ORDER: -0.0 being below 0.0", TermsBoundaryTest::noughtBelowNought);
        CHECK.eachKind("its SIDE is its sign, of a nought too", TermsBoundaryTest::sideOfANought);
        CHECK.eachKind("The SIZE of a NUMBER is that without its sign", TermsBoundaryTest::sizeOfANought);
        CHECK.eachKind("a STEP (0.0 or above, never -0.0)", TermsBoundaryTest::stepIsNeverMinusNought);
        CHECK.eachKind("WITHIN the LIMITS a NUMBER that is below the low one is that",
                TermsBoundaryTest::belowTheLowLimit);
        CHECK.eachKind("WITHIN the LIMITS one that is above the high one is that",
                TermsBoundaryTest::aboveTheHighLimit);
        CHECK.eachKind("WITHIN the LIMITS others are themselves", TermsBoundaryTest::othersAreThemselves);
        CHECK.eachKind("MARKS: the highest and the lowest VALUE by ORDER", TermsBoundaryTest::marksByOrder);
        CHECK.eachKind("that it has had since it was made, or sent back", TermsBoundaryTest::marksSinceTheBeginning);
        CHECK.eachKind("MARKS: the greatest SIZE of a VALUE", TermsBoundaryTest::greatestSize);
        CHECK.eachKind("Sums as + has them: too large", TermsBoundaryTest::sumsTooLarge);
        CHECK.eachKind("Sums as + has them: too small", TermsBoundaryTest::sumsTooSmall);
        CHECK.eachKind("Sums as + has them: half way", TermsBoundaryTest::sumsHalfWay);
        CHECK.eachKind("Sums as + has them: noughts", TermsBoundaryTest::sumsOfNoughts);
        CHECK.sentence("COARSE Float.floatToIntBits, made a long (below 0 where that is)",
                TermsBoundaryTest::coarseBitsBelowNought);
        CHECK.sentence("Of a long that tells a COARSE one the lower 32 bits count alone",
                TermsBoundaryTest::lowerBitsAlone);
        CHECK.sentence("BITS that tell a NaN of the kind (of the other kind they tell a NUMBER)",
                TermsBoundaryTest::nanOfTheOtherKind);
        CHECK.sentence("NEEDLES, numbered from 0 on", TermsBoundaryTest::numberedFromNought);
        CHECK.sentence("There are at most 8 NEEDLES", TermsBoundaryTest::atMostEight);
        CHECK.sentence("Of several exceptions the one that stands first behind throws is thrown",
                TermsBoundaryTest::refusedFirst);
        CHECK.end();
    }

    private static void lastPromisedCall() {
        NeedleBoard board = Check.freeFine();
        for (int call = 2; call < MOST_CALLS; call++) {
            CHECK.same("call " + call, board.turn(0, Check.fine(1)), Check.fine(call - 1));
        }
        CHECK.same("call 512", board.count(4), MOST_CALLS - 2);

        NeedleBoard mixed = Check.freeFine();
        for (int call = 2; call < MOST_CALLS; call++) {
            move(mixed, call % 5);
        }
        CHECK.same("call 512 after moves of all sorts", mixed.count(4), MOST_CALLS - 2);
    }

    private static void move(NeedleBoard board, int sort) {
        switch (sort) {
            case 0: board.put(0, Check.fine(-1.5)); break;
            case 1: board.turn(0, Check.fine(2.25)); break;
            case 2: board.pull(0, Check.fine(7)); break;
            case 3: board.rest(0, 2); break;
            default: board.face(0, 0); break;
        }
    }

    private static void noughtsAndInfinitiesAreNumbers(boolean fine) {
        for (double number : new double[] {0.0, -0.0, INF, -INF}) {
            long bits = Check.bits(fine, number);
            NeedleBoard board = new NeedleBoard();
            CHECK.same("needle between " + number, board.needle(fine, bits, bits), 0);
            CHECK.same("the low limit", board.read(0, 1), bits);
            CHECK.same("the high limit", board.read(0, 2), bits);
            NeedleBoard free = Check.free(fine);
            CHECK.same("put " + number, free.put(0, bits), bits);
            CHECK.same("turn by " + number, free.turn(0, bits), bits);
            CHECK.same("damp by " + number, free.damp(0, bits), Check.bits(fine, Math.abs(number)));
            CHECK.yes("pull to " + number, free.pull(0, bits));
        }
        NeedleBoard board = new NeedleBoard();
        CHECK.same("needle from infinity to infinity",
                board.needle(fine, Check.bits(fine, -INF), Check.bits(fine, INF)), 0);
    }

    private static void nanIsNone(boolean fine) {
        int n = fine ? 0 : 1;
        for (long nan : Check.nans(fine)) {
            refusedArgument("needle from " + nan, x -> x.needle(fine, nan, Check.bits(fine, INF)));
            refusedArgument("needle to " + nan, x -> x.needle(fine, Check.bits(fine, -INF), nan));
            refusedArgument("put " + nan, x -> x.put(n, nan));
            refusedArgument("turn " + nan, x -> x.turn(n, nan));
            refusedArgument("damp " + nan, x -> x.damp(n, nan));
            refusedArgument("pull " + nan, x -> x.pull(n, nan) ? 1 : 0);
        }
    }

    private static void refusedArgument(String what, Check.Call call) {
        CHECK.refused(what, IllegalArgumentException.class, call);
    }

    private static void coarseBitsBelowNought() {
        NeedleBoard board = Check.freeCoarse();
        CHECK.same("the low limit", board.read(0, 1), -8388608L);
        CHECK.same("put -0.0", board.put(0, 0x80000000L), -2147483648L);
        CHECK.same("turn to -1", board.turn(0, 0xbf800000L), -1082130432L);
        CHECK.same("the value", board.read(0, 0), -1082130432L);
        CHECK.same("the lowest", board.read(0, 4), -1082130432L);
        CHECK.same("1 with its side", board.read(0, 8), -1082130432L);
        CHECK.same("the lesser", board.between(0, 0, 0), -1082130432L);
        CHECK.same("face", board.face(0, 0), -1082130432L);
        CHECK.same("rest", board.rest(0, 0), -1082130432L);
        CHECK.same("its size is not below 0", board.read(0, 7), 1065353216L);
    }

    private static void lowerBitsAlone() {
        for (long upper : new long[] {1L << 32, 1L << 63, 0x7ff0000000000000L, -1L << 32, 0x123456700000000L}) {
            long two = upper | 0x40000000L;
            NeedleBoard board = new NeedleBoard();
            board.needle(false, upper | 0xc0000000L, two);
            CHECK.same("the low limit", board.read(0, 1), Check.coarse(-2));
            CHECK.same("the high limit", board.read(0, 2), Check.coarse(2));
            CHECK.same("put", board.put(0, upper | 0x3f800000L), Check.coarse(1));
            CHECK.same("turn", board.turn(0, upper | 0xbf800000L), 0);
            CHECK.same("damp", board.damp(0, upper | 0xbf800000L), Check.coarse(1));
            CHECK.no("pull", board.pull(0, two));
            CHECK.yes("pull again", board.pull(0, two));
            CHECK.same("put 0.0", board.put(0, upper), 0);
            refusedArgument("put NaN", x -> x.put(1, upper | 0x7fc00000L));
        }
    }

    private static void nanOfTheOtherKind() {
        NeedleBoard board = Check.freeCoarse();
        CHECK.same("the fine NaN is a coarse 0.0", board.put(0, 0x7ff8000000000000L), 0);
        NeedleBoard other = Check.freeFine();
        CHECK.same("the coarse NaN is a small fine number", other.put(0, 0x7fc00000L), 0x7fc00000L);
        CHECK.same("the coarse infinity is one too", other.put(0, 0x7f800000L), 0x7f800000L);
        CHECK.same("so it can be turned", other.turn(0, Check.MINUS_INFINITY), Check.MINUS_INFINITY);
    }

    private static void noughtBelowNought(boolean fine) {
        NeedleBoard board = Check.boardWith(fine, -0.0, 0.0);
        board.needle(fine, 0, 0);
        board.put(0, Check.bits(fine, -0.0));
        CHECK.same("order", board.order(0, 1), -1);
        CHECK.same("order the other way", board.order(1, 0), 1);
        CHECK.same("the lesser", board.between(0, 1, 0), Check.bits(fine, -0.0));
        CHECK.same("the lesser the other way", board.between(1, 0, 0), Check.bits(fine, -0.0));
        CHECK.same("the greater", board.between(0, 1, 1), 0);
        CHECK.same("the greater the other way", board.between(1, 0, 1), 0);
        refusedArgument("limits 0.0 and -0.0", x -> x.needle(fine, 0, Check.bits(fine, -0.0)));
    }

    private static void sideOfANought(boolean fine) {
        NeedleBoard board = Check.free(fine);
        board.needle(fine, Check.bits(fine, -0.0), 0);
        board.put(0, Check.bits(fine, 3));
        board.put(1, Check.bits(fine, -0.0));
        CHECK.same("the side of -0.0", board.face(0, 1), Check.bits(fine, -3));
        board.put(1, 0);
        CHECK.same("the side of 0.0", board.face(0, 1), Check.bits(fine, 3));
    }

    private static void sizeOfANought(boolean fine) {
        for (double number : new double[] {-0.0, -1, -INF, -Check.least(fine), -Check.most(fine), 0.0, INF}) {
            NeedleBoard board = Check.freeAt(fine, number);
            long size = Check.bits(fine, Math.abs(number));
            CHECK.same("the size of " + number, board.read(0, 7), size);
            CHECK.same("the greatest size of " + number, board.read(0, 5), size);
            CHECK.same("damp by " + number, board.damp(0, Check.bits(fine, number)), size);
            CHECK.same("the lesser size of " + number, board.between(0, 0, 2), size);
            CHECK.same("the greater size of " + number, board.between(0, 0, 3), size);
        }
    }

    private static void stepIsNeverMinusNought(boolean fine) {
        NeedleBoard board = Check.free(fine);
        CHECK.same("damp by -0.0", board.damp(0, Check.bits(fine, -0.0)), 0);
        CHECK.same("the step then", board.read(0, 6), 0);
        CHECK.same("damp by a negative number", board.damp(0, Check.bits(fine, -Check.least(fine))),
                Check.bits(fine, Check.least(fine)));
        CHECK.same("the step then", board.read(0, 6), Check.bits(fine, Check.least(fine)));
    }

    private static void belowTheLowLimit(boolean fine) {
        for (double low : new double[] {-2.5, -0.0, 0.0, 1.5, Check.least(fine)}) {
            NeedleBoard board = Check.boardWith(fine, low, 9);
            long due = Check.bits(fine, low);
            board.put(0, Check.bits(fine, 9));
            CHECK.same("just below " + low, board.put(0, Check.bits(fine, Check.nextDown(fine, low))), due);
            board.put(0, Check.bits(fine, 9));
            CHECK.same("far below " + low, board.put(0, Check.bits(fine, -INF)), due);
            board.put(0, Check.bits(fine, 9));
            CHECK.same("turned below " + low, board.turn(0, Check.bits(fine, -20)), due);
        }
        NeedleBoard board = Check.boardWith(fine, 0.0, 9);
        CHECK.same("-0.0 is below a low limit 0.0", board.put(0, Check.bits(fine, -0.0)), 0);
        NeedleBoard top = Check.boardWith(fine, INF, INF);
        CHECK.same("all is below a low limit at the infinity", top.put(0, Check.bits(fine, Check.most(fine))),
                Check.bits(fine, INF));
    }

    private static void aboveTheHighLimit(boolean fine) {
        for (double high : new double[] {2.5, -0.0, 0.0, -1.5, -Check.least(fine)}) {
            NeedleBoard board = Check.boardWith(fine, -9, high);
            long due = Check.bits(fine, high);
            board.put(0, Check.bits(fine, -9));
            CHECK.same("just above " + high, board.put(0, Check.bits(fine, Check.nextUp(fine, high))), due);
            board.put(0, Check.bits(fine, -9));
            CHECK.same("far above " + high, board.put(0, Check.bits(fine, INF)), due);
            board.put(0, Check.bits(fine, -9));
            CHECK.same("turned above " + high, board.turn(0, Check.bits(fine, 20)), due);
        }
        NeedleBoard board = Check.boardWith(fine, -9, -0.0);
        board.put(0, Check.bits(fine, -9));
        CHECK.same("0.0 is above a high limit -0.0", board.put(0, 0), Check.bits(fine, -0.0));
        NeedleBoard bottom = Check.boardWith(fine, -INF, -INF);
        CHECK.same("all is above a high limit at the negative infinity",
                bottom.put(0, Check.bits(fine, -Check.most(fine))), Check.bits(fine, -INF));
    }

    private static void othersAreThemselves(boolean fine) {
        NeedleBoard board = Check.boardWith(fine, -2.5, 1.5);
        double[] numbers = {-2.5, 1.5, Check.nextUp(fine, -2.5), Check.nextDown(fine, 1.5), 0.0, -0.0,
            Check.least(fine), -Check.least(fine)};
        for (double number : numbers) {
            CHECK.same("put " + number, board.put(0, Check.bits(fine, number)), Check.bits(fine, number));
        }
        NeedleBoard noughts = Check.boardWith(fine, -0.0, 0.0);
        CHECK.same("-0.0 at the low limit", noughts.put(0, Check.bits(fine, -0.0)), Check.bits(fine, -0.0));
        CHECK.same("0.0 at the high limit", noughts.put(0, 0), 0);
        NeedleBoard free = Check.free(fine);
        CHECK.same("the high infinity", free.put(0, Check.bits(fine, INF)), Check.bits(fine, INF));
        CHECK.same("the low infinity", free.put(0, Check.bits(fine, -INF)), Check.bits(fine, -INF));
    }

    private static void marksByOrder(boolean fine) {
        NeedleBoard board = Check.boardWith(fine, -5, -0.0);
        CHECK.same("the highest is -0.0", board.read(0, 3), Check.bits(fine, -0.0));
        NeedleBoard noughts = Check.boardWith(fine, -0.0, 0.0);
        CHECK.same("the lowest is 0.0", noughts.read(0, 4), 0);
        noughts.put(0, Check.bits(fine, -0.0));
        CHECK.same("the lowest is -0.0 then", noughts.read(0, 4), Check.bits(fine, -0.0));
        CHECK.same("the highest stays 0.0", noughts.read(0, 3), 0);
        noughts.put(0, 0);
        CHECK.same("the lowest stays -0.0", noughts.read(0, 4), Check.bits(fine, -0.0));
        NeedleBoard free = Check.freeAt(fine, -INF);
        free.put(0, Check.bits(fine, INF));
        CHECK.same("the lowest infinity", free.read(0, 4), Check.bits(fine, -INF));
        CHECK.same("the highest infinity", free.read(0, 3), Check.bits(fine, INF));
    }

    private static void marksSinceTheBeginning(boolean fine) {
        NeedleBoard board = Check.boardWith(fine, 2, 9);
        board.put(0, Check.bits(fine, 5));
        CHECK.same("the first value counts", board.read(0, 4), Check.bits(fine, 2));
        CHECK.same("0.0 was no value", board.read(0, 3), Check.bits(fine, 5));
        board.put(0, Check.bits(fine, 20));
        CHECK.same("the value counts, not the number", board.read(0, 3), Check.bits(fine, 9));
        board.back(0);
        CHECK.same("what was before back counts no more", board.read(0, 3), Check.bits(fine, 2));
        CHECK.same("nor does its size", board.read(0, 5), Check.bits(fine, 2));
        board.put(0, Check.bits(fine, 3));
        CHECK.same("the value of back counts", board.read(0, 4), Check.bits(fine, 2));
    }

    private static void greatestSize(boolean fine) {
        NeedleBoard board = Check.freeAt(fine, 3);
        board.put(0, Check.bits(fine, -4));
        board.put(0, Check.bits(fine, 2));
        CHECK.same("of 3 and -4", board.read(0, 5), Check.bits(fine, 4));
        board.put(0, Check.bits(fine, Check.nextUp(fine, 4)));
        CHECK.same("of one a little above", board.read(0, 5), Check.bits(fine, Check.nextUp(fine, 4)));
        NeedleBoard nought = Check.freeAt(fine, -0.0);
        CHECK.same("of noughts", nought.read(0, 5), 0);
    }

    private static void turned(boolean fine, double from, double by, double due) {
        CHECK.same(from + " and " + by, Check.freeAt(fine, from).turn(0, Check.bits(fine, by)), Check.bits(fine, due));
    }

    private static void sumsTooLarge(boolean fine) {
        double most = Check.most(fine);
        double halfUnit = fine ? 0x1.0p970 : 0x1.0p103;
        turned(fine, most, most, INF);
        turned(fine, -most, -most, -INF);
        turned(fine, most, halfUnit, INF);
        turned(fine, -most, -halfUnit, -INF);
        turned(fine, most, Check.nextDown(fine, halfUnit), most);
        turned(fine, most, 1, most);
        turned(fine, INF, -most, INF);
        turned(fine, INF, INF, INF);
        turned(fine, -INF, -INF, -INF);
    }

    private static void sumsTooSmall(boolean fine) {
        double least = Check.least(fine);
        double normal = fine ? Double.MIN_NORMAL : Float.MIN_NORMAL;
        turned(fine, least, least, 2 * least);
        turned(fine, least, -least, 0.0);
        turned(fine, -least, least, 0.0);
        turned(fine, normal, -least, normal - least);
        turned(fine, normal - least, least, normal);
        turned(fine, Check.nextUp(fine, normal), -normal, least);
        turned(fine, 1, least, 1);
        turned(fine, 1, -least, 1);
    }

    private static void sumsHalfWay(boolean fine) {
        double half = fine ? 0x1.0p-53 : 0x1.0p-24;
        double up = Check.nextUp(fine, 1);
        turned(fine, 1, half, 1);
        turned(fine, up, half, Check.nextUp(fine, up));
        turned(fine, 1, Check.nextUp(fine, half), up);
        turned(fine, up, Check.nextDown(fine, half), up);
        turned(fine, -1, -half, -1);
        turned(fine, 1, -half, Check.nextDown(fine, 1));
        turned(fine, 1, -half / 2, 1);
        turned(fine, 1, -Check.nextUp(fine, half / 2), Check.nextDown(fine, 1));
        turned(fine, Check.nextDown(fine, 2), half, 2);
    }

    private static void sumsOfNoughts(boolean fine) {
        turned(fine, -0.0, -0.0, -0.0);
        turned(fine, -0.0, 0.0, 0.0);
        turned(fine, 0.0, -0.0, 0.0);
        turned(fine, 0.0, 0.0, 0.0);
        turned(fine, 3, -3, 0.0);
        turned(fine, -3, 3, 0.0);
        turned(fine, -3, 0.0, -3);
        turned(fine, -0.0, 3, 3);
    }

    private static void numberedFromNought() {
        NeedleBoard board = new NeedleBoard();
        for (int n = 0; n < 8; n++) {
            CHECK.same("needle " + n, board.needle(n % 3 != 0, n, n), n);
        }
        for (int n = 0; n < 8; n++) {
            CHECK.same("the value of needle " + n, board.read(n, 0), n);
        }
    }

    private static void atMostEight() {
        CHECK.refused("a ninth", IllegalStateException.class, Check::fullBoard, x -> x.needle(true, 0, 0));
        CHECK.refused("read(8, 0)", NoSuchElementException.class, Check::fullBoard, x -> x.read(8, 0));
        CHECK.same("the eighth", Check.fullBoard().read(7, 6), Check.COARSE_INFINITY);
    }

    private static void refusedFirst() {
        long nan = Check.FINE_NANS[0];
        CHECK.refused("NaN for a full board", IllegalArgumentException.class, Check::fullBoard,
                x -> x.needle(true, nan, 0));
        CHECK.refused("limits in wrong order for a full board", IllegalArgumentException.class, Check::fullBoard,
                x -> x.needle(true, Check.fine(2), Check.fine(1)));
        noSuchFirst("put NaN", x -> x.put(2, nan));
        noSuchFirst("turn by NaN", x -> x.turn(2, nan));
        noSuchFirst("damp by NaN", x -> x.damp(2, nan));
        noSuchFirst("pull to NaN", x -> x.pull(2, nan) ? 1 : 0);
        noSuchFirst("another way", x -> x.rest(2, 3));
        noSuchFirst("another what to read", x -> x.read(2, 9));
        noSuchFirst("another what between, first", x -> x.between(2, 0, 4));
        noSuchFirst("another what between, second", x -> x.between(0, 2, 4));
        CHECK.refused("NaN for an infinite value", IllegalArgumentException.class, () -> Check.freeAt(true, INF),
                x -> x.turn(0, nan));
    }

    private static void noSuchFirst(String what, Check.Call call) {
        CHECK.refused("of no needle, " + what, NoSuchElementException.class, call);
    }
}
