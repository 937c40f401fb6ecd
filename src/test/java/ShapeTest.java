/** Promises 6 to 13: area, has, pieces, corners, bulges, images, least, alike. */
public final class ShapeTest {
    private static final Harness T = new Harness("ShapeTest");

    public static void main(String[] args) {
        wrongInputs();
        units();
        joinsAndWords();
        pieces();
        corners();
        imagesAndLeast();
        alike();
        T.finish();
    }

    private static QuarterBoards outline(String e) {
        return Harness.house("outline o=" + e + ";");
    }

    private static int quarter(int x, int y, int d) {
        return 4 * (8 * y + x) + d;
    }

    /** The outline has just these QUARTERS. */
    private static void isJust(String e, int... quarters) {
        QuarterBoards x = outline(e);
        T.due("area of " + e, x.area(true, 0), quarters.length);
        for (int q = 0; q < 256; q++) {
            int want = 0;
            for (int one : quarters) {
                want = one == q ? 1 : want;
            }
            T.due("has " + q + " of " + e, x.has(true, 0, q), want);
        }
    }

    private static void wrongInputs() {
        QuarterBoards x = Harness.house("board a=cell 1 1;outline b=cell 2 2;outline c=half 0 0 0;");
        int[] none = {-1, Integer.MIN_VALUE, 2, 8, Integer.MAX_VALUE};
        for (int k : none) {
            T.due("area", x.area(true, k), -1);
            T.due("has", x.has(true, k, 0), -1);
            T.due("pieces", x.pieces(true, k), -1);
            T.due("corners", x.corners(true, k, true), -1);
            T.due("bulges", x.bulges(true, k), -1);
            T.due("images", x.images(true, k), -1);
            T.due("least", x.least(true, k, 0), -1);
            T.due("alike", x.alike(k, 0), -1);
            T.due("alike", x.alike(0, k), -1);
            T.due("area of a board", x.area(false, k), -1);
        }
        T.due("area of board 1", x.area(false, 1), -1);
        T.due("area of board 0", x.area(false, 0), 4);
        T.due("area of outline 1", x.area(true, 1), 2);
        T.due("has -1", x.has(true, 0, -1), -1);
        T.due("has 256", x.has(true, 0, 256), -1);
        T.due("has 255", x.has(true, 0, 255), 0);
        T.due("least, g -1", x.least(true, 0, -1), -1);
        T.due("least, g 8", x.least(true, 0, 8), -1);
        T.due("least, g 7", x.least(true, 0, 7), 0);
    }

    private static void units() {
        isJust("cell 7 7", 252, 253, 254, 255);
        isJust("box 1 2 2 1", 68, 69, 70, 71, 72, 73, 74, 75);
        isJust("box 1 2 1 2", 68, 69, 70, 71, 100, 101, 102, 103);
        isJust("half 1 0 0", 4, 5);
        isJust("half 1 0 1", 5, 6);
        isJust("half 1 0 2", 6, 7);
        isJust("half 1 0 3", 7, 4);
        isJust("quarter 0 1 3", 35);
        T.due("all", outline("box 0 0 8 8").area(true, 0), 256);
    }

    private static void joinsAndWords() {
        isJust("cell 0 0 - half 0 0 0 + quarter 0 0 1", 1, 2, 3);
        isJust("cell 0 0 - (half 0 0 0 + quarter 0 0 2)", 3);
        isJust("cell 0 0 + cell 1 0 & half 1 0 0", 4, 5);
        isJust("cell 0 0 + (cell 1 0 & half 1 0 0)", 0, 1, 2, 3, 4, 5);
        isJust("turn quarter 1 2 0", quarter(5, 1, 1));
        isJust("turn quarter 1 2 3", quarter(5, 1, 0));
        isJust("turn turn quarter 1 2 3", quarter(6, 5, 1));
        isJust("flip quarter 1 2 0", quarter(6, 2, 0));
        isJust("flip quarter 1 2 1", quarter(6, 2, 3));
        isJust("flip quarter 1 2 2", quarter(6, 2, 2));
        isJust("flip quarter 1 2 3", quarter(6, 2, 1));
        isJust("turn flip quarter 1 2 3", quarter(5, 6, 2));
        isJust("flip turn quarter 1 2 3", quarter(2, 1, 0));
        isJust("shift -1 3 quarter 1 2 3", quarter(0, 5, 3));
        isJust("base (quarter 2 5 1 + quarter 4 3 2)", quarter(0, 2, 1), quarter(2, 0, 2));
    }

    private static void pieces() {
        due("cell 0 0 + cell 1 1", 2);
        due("cell 0 0 + cell 1 0", 1);
        due("quarter 0 0 0 + quarter 0 0 2", 2);
        due("quarter 0 0 0 + quarter 0 0 3", 1);
        due("quarter 0 0 1 + quarter 1 0 3", 1);
        due("quarter 0 0 1 + quarter 1 0 1", 2);
        due("quarter 0 0 2 + quarter 0 1 0", 1);
        due("quarter 0 0 0 + quarter 0 1 2", 2);
        // neither the rows nor the columns of the GRID go on at its other rim
        due("quarter 7 0 1 + quarter 0 1 3", 2);
        due("quarter 7 3 1 + quarter 0 3 3", 2);
        due("quarter 3 7 2 + quarter 3 0 0", 2);
        due("box 0 0 8 8", 1);
        due("box 0 0 8 8 - box 0 1 8 1 - box 0 3 8 1 - box 1 0 1 8", 6);
        due("box 0 0 3 3 - cell 1 1", 1);
    }

    private static void due(String e, int want) {
        T.due("pieces of " + e, outline(e).pieces(true, 0), want);
        T.due("pieces of the board " + e, Harness.house("board o=" + e + ";").pieces(false, 0), want);
    }

    private static void corners() {
        corners("cell 3 3", 4, 0, 1);
        corners("cell 0 0", 4, 0, 1);
        corners("box 0 0 8 8", 4, 0, 1);
        corners("quarter 3 3 0", 3, 0, 1);
        corners("half 3 3 0", 3, 0, 1);
        corners("cell 3 3 - quarter 3 3 0", 4, 1, 0);
        corners("cell 0 0 - quarter 0 0 0", 4, 1, 0);
        corners("quarter 3 3 0 + quarter 3 3 2", 6, 0, 0);
        corners("box 3 3 2 1 + cell 3 4", 5, 1, 0);
        corners("cell 3 3 + cell 4 4", 8, 0, 0);
        corners("box 0 0 3 3 - cell 1 1", 4, 4, 0);
        // two QUARTERS back to back are a square on its tip, 45 and 45 above and below
        corners("quarter 3 3 1 + quarter 4 3 3", 4, 0, 1);
        // half a CELL beside a whole one: 135 where they meet, or two rows of one POINT
        corners("cell 3 3 + half 4 3 2", 4, 0, 1);
        corners("cell 3 3 + half 4 3 3", 4, 0, 1);
        corners("cell 3 3 + half 4 3 1", 7, 0, 0);
        // the whole GRID but for one QUARTER at the rim: 135 twice, 270 in the middle
        corners("box 0 0 8 8 - quarter 3 0 0", 6, 1, 0);
        corners("box 0 0 8 8 - quarter 3 3 0", 4, 3, 0);
    }

    private static void corners(String e, int outward, int inward, int bulges) {
        QuarterBoards x = outline(e);
        T.due("outward corners of " + e, x.corners(true, 0, false), outward);
        T.due("inward corners of " + e, x.corners(true, 0, true), inward);
        T.due("bulges of " + e, x.bulges(true, 0), bulges);
    }

    private static void imagesAndLeast() {
        images("cell 3 3", 1, 0, 0, 0, 0, 0, 0, 0, 0);
        images("half 5 6 0", 4, 0, 1, 2, 0, 0, 0, 1, 2);
        images("quarter 5 6 3", 4, 3, 0, 1, 2, 1, 2, 3, 0);
        images("box 2 2 2 1", 2, 0, 0, 0, 0, 0, 0, 0, 0);
        // the L of cells 0 0, 0 1, 0 2 and 1 2; g 3 and g 4 begin at the second and third column
        images("box 0 0 1 3 + cell 1 2", 8, 0, 0, 0, 8, 4, 0, 0, 0);
        images("cell 1 0 + cell 0 1", 2, 4, 0, 4, 0, 0, 4, 0, 4);
    }

    private static void images(String e, int many, int... least) {
        QuarterBoards x = outline(e);
        T.due("images of " + e, x.images(true, 0), many);
        for (int g = 0; g < 8; g++) {
            T.due("least of image " + g + " of " + e, x.least(true, 0, g), least[g]);
        }
    }

    private static void alike() {
        QuarterBoards x = Harness.house("outline a=box 0 0 1 3+cell 1 2;outline b=shift -2 3 turn a;"
            + "outline c=flip a;outline d=shift 1 1 a;outline e=turn flip a;outline f=box 0 0 2 2;");
        T.due("alike(0, 0)", x.alike(0, 0), 0);
        T.due("alike(0, 1)", x.alike(0, 1), 1);
        T.due("alike(1, 0)", x.alike(1, 0), 3);
        T.due("alike(0, 2)", x.alike(0, 2), 4);
        T.due("alike(2, 0)", x.alike(2, 0), 4);
        T.due("alike(0, 3)", x.alike(0, 3), 0);
        T.due("alike(0, 4)", x.alike(0, 4), 5);
        T.due("alike(4, 0)", x.alike(4, 0), 5);
        T.due("alike(0, 5)", x.alike(0, 5), -2);
        T.due("alike(5, 0)", x.alike(5, 0), -2);
        T.due("alike(5, 5)", x.alike(5, 5), 0);
    }
}
