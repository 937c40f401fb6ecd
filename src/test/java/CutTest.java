/** Promises 21 to 23: cut, part, laid. */
public final class CutTest {
    private static final Harness T = new Harness("CutTest");

    public static void main(String[] args) {
        wrongInputs();
        alikeOnes();
        squareToTriangle();
        noCut();
        beyondTheGrid();
        farthestShifts();
        onePieceEach();
        memory();
        T.finish();
    }

    private static void cut(QuarterBoards x, int want, int g, int a, int b) {
        T.due("cut(0, 1)", x.cut(0, 1), want);
        T.due("laid(0)", x.laid(0), g);
        T.due("laid(1)", x.laid(1), a);
        T.due("laid(2)", x.laid(2), b);
        T.due("laid(3)", x.laid(3), -100);
        T.due("laid(-1)", x.laid(-1), -100);
    }

    private static void parts(QuarterBoards x, String want) {
        for (int q = 0; q < 256; q++) {
            char sign = q < want.length() ? want.charAt(q) : '.';
            T.due("part(" + q + ")", x.part(q), sign == '.' ? -1 : sign - '0');
        }
        T.due("part(-1)", x.part(-1), -1);
        T.due("part(256)", x.part(256), -1);
    }

    private static void wrongInputs() {
        QuarterBoards x = Harness.house("outline a=cell 0 0;");
        for (int bad : new int[] {-1, 1, 6, Integer.MAX_VALUE, Integer.MIN_VALUE}) {
            x.cut(0, 0);
            T.due("cut of outline " + bad, x.cut(bad, 0), -1);
            T.due("nothing is remembered", x.laid(0), -100);
            T.due("nothing is remembered", x.part(0), -1);
            x.cut(0, 0);
            T.due("cut that makes outline " + bad, x.cut(0, bad), -1);
            T.due("nothing is remembered", x.laid(1), -100);
        }
    }

    private static void alikeOnes() {
        QuarterBoards x = Harness.house("outline a=shift 3 4 quarter 0 0 1;outline b=quarter 5 5 0;");
        // IMAGE 1 of b is a's BASE
        cut(x, 1, 1, 0, 0);
        parts(x, ".0");
    }

    private static void squareToTriangle() {
        QuarterBoards x = Harness.house("outline a=cell 3 3;outline b=half 4 4 2+half 5 4 1;");
        // the triangle's IMAGE 0 is half 0 0 2 beside half 1 0 1; shifted by -1 its right half lies on the square
        cut(x, 2, 0, -1, 0);
        parts(x, "1001");
    }

    private static void noCut() {
        QuarterBoards x = Harness.house("outline a=cell 0 0;outline b=half 0 0 0;");
        x.cut(0, 0);
        cut(x, -2, -100, -100, -100);
        parts(x, "");
        QuarterBoards y = Harness.house("outline a=box 0 0 4 1;outline b=cell 0 0+cell 2 0+cell 4 0+cell 6 0;");
        cut(y, -2, -100, -100, -100);
    }

    private static void beyondTheGrid() {
        // the row of eight lies on the square's 4 by 2 CELLS; half of it sticks out of the GRID at either end
        QuarterBoards x = Harness.house("outline a=box 2 2 4 2;outline b=box 0 5 8 1;");
        cut(x, 2, 0, -4, 0);
        parts(x, "0000000000000000................1111111111111111");
        QuarterBoards y = Harness.house("outline a=box 2 5 1 8-cell 2 7;outline b=cell 0 0;".replace("box 2 5 1 8", "box 2 0 1 8"));
        cut(y, -2, -100, -100, -100);
        QuarterBoards z = Harness.house("outline a=box 2 2 2 4;outline b=box 0 5 8 1;");
        // IMAGE 0 lies across: each cut leaves more than one PIECE or the wrong one, so it is turned
        cut(z, 2, 1, 0, -4);
    }

    private static void farthestShifts() {
        // a QUARTER at one end of a and at the other end of b; what is left is turned, so it can't be the first PART
        String left = "(cell 0 3+half 1 3 3+quarter 0 4 0)";
        int[][] want = {{7, 0}, {0, 7}, {-7, 0}, {0, -7}};
        String words = "";
        for (int[] ab : want) {
            cut(Harness.house("outline a=" + words + "(quarter 7 0 1+" + left + ");outline b=" + words
                + "(quarter 0 0 1+shift 6 3 base turn " + left + ");"), 2, 0, ab[0], ab[1]);
            words = words + "turn ";
        }
    }

    private static void onePieceEach() {
        // the second PART would be two CELLS apart
        QuarterBoards x = Harness.house("outline a=cell 0 1+cell 2 1+cell 1 1;outline b=cell 1 0+cell 0 1+cell 2 1;");
        T.due("pieces", x.pieces(true, 1), 3);
        cut(x, -2, -100, -100, -100);
    }

    private static void memory() {
        QuarterBoards x = Harness.house("board c=cell 0 0;outline a=cell 3 3;outline b=half 4 4 2+half 5 4 1;");
        T.due("nothing yet", x.laid(0), -100);
        x.cut(0, 1);
        x.fill(0, 1);
        x.sets(0);
        x.lay(0, 0, 0, 0);
        T.due("other calls leave it", x.laid(1), -1);
        T.due("the fill is remembered too", x.filled(0, 1), 3);
        x.cut(0, 0);
        T.due("the latest one", x.laid(1), 0);
        T.due("the whole is one PART", x.part(0) + x.part(1) + x.part(2) + x.part(3), 0);
    }
}
