import java.util.NoSuchElementException;

/** Promise 8. */
public final class FaceTest {
    public static void main(String[] args) {
        Check check = new Check();
        double[] sizes = {0.0, Double.MIN_VALUE, 1.5, Double.MAX_VALUE, Double.POSITIVE_INFINITY};
        double[] sides = {0.0, -0.0, 3, -3, Double.MIN_VALUE, -Double.MIN_VALUE, Double.NEGATIVE_INFINITY};
        for (double size : sizes) {
            for (double side : sides) {
                faces(check, size, side);
                faces(check, -size, side);
            }
        }

        NeedleBoard board = Check.boardWithFine(-1, 5);
        board.needle(true, Check.fine(-9), Check.fine(-9));
        board.put(0, Check.fine(4));
        check.same("within the limits", board.face(0, 1), Check.fine(-1));
        check.same("the lowest", board.read(0, 4), Check.fine(-1));
        check.same("the other stays", board.read(1, 0), Check.fine(-9));
        check.same("itself", board.face(0, 0), Check.fine(-1));
        check.same("count 4", board.count(4), 3);

        check.refused("face(0, 2)", NoSuchElementException.class, x -> x.face(0, 2));
        check.refused("face(2, 0)", NoSuchElementException.class, x -> x.face(2, 0));
        check.refused("face(0, -1)", NoSuchElementException.class, x -> x.face(0, -1));
        check.refused("face(-1, 0)", NoSuchElementException.class, x -> x.face(-1, 0));
        check.refused("face(8, 8)", NoSuchElementException.class, x -> x.face(8, 8));
        check.end();
    }

    private static void faces(Check check, double size, double side) {
        NeedleBoard board = Check.freeFine();
        board.needle(true, Check.MINUS_INFINITY, Check.INFINITY);
        board.needle(false, Check.COARSE_MINUS_INFINITY, Check.COARSE_INFINITY);
        float coarse = (float) size;
        board.put(0, Check.fine(size));
        board.put(1, Check.fine(side));
        board.put(2, Check.coarse(coarse));
        String call = size + " facing as " + side;
        check.same(call, board.face(0, 1), Check.fine(Math.copySign(size, side)));
        check.same("the value then", board.read(0, 0), Check.fine(Math.copySign(size, side)));
        check.same("coarse, " + call, board.face(2, 1), Check.coarse(Math.copySign(coarse, (float) side)));
        board.put(2, Check.coarse((float) side));
        board.put(0, Check.fine(size));
        check.same("as a coarse one, " + call, board.face(0, 2), Check.fine(Math.copySign(size, side)));
    }
}
