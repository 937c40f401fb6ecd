/** The edges of the GRID and of SHAPES (part I of the document's terms) and of promises 6 to 13. */
public final class ShapeEdgeTest {
    private static final Harness T = new Harness("ShapeEdgeTest");
    private static final int[] BEYOND = {-1, Integer.MIN_VALUE, Integer.MAX_VALUE};
    // the eight QUARTERS round the POINT 4, 4, one behind the other, from straight above it on
    private static final String[] ROUND = {"4 3 3", "4 3 2", "4 4 0", "4 4 3", "3 4 1", "3 4 0", "3 3 2", "3 3 1"};

    public static void main(String[] args) {
        grid();
        numbersOfQuarters();
        hangInOneCell();
        hangSideBySide();
        pieceWithAllThatHang();
        turn();
        flip();
        base();
        imageNumbers();
        alikeShapes();
        roundAPoint();
        roundAMiddle();
        atTheRim();
        rowsOfOnePoint();
        bulging();
        area();
        has();
        pieces();
        corners();
        bulges();
        images();
        least();
        alike();
        alikeIsNot();
        noSuchOutlines();
        T.finish();
    }

    private static QuarterBoards outline(String e) {
        return Harness.house("outline o=" + e + ";");
    }

    private static int number(int x, int y, int d) {
        return 4 * (8 * y + x) + d;
    }

    /** The outline's one QUARTER. */
    private static int only(String e) {
        QuarterBoards x = outline(e);
        T.due("area of " + e, x.area(true, 0), 1);
        for (int quarter = 0; quarter < 256; quarter++) {
            if (x.has(true, 0, quarter) == 1) {
                return quarter;
            }
        }
        return -1;
    }

    // Terms I: "THE GRID has 8 by 8 CELLS (x from the left, y from above, 0 .. 7), each with four QUARTERS, parted
    // by its diagonals: 0 above, 1 right, 2 below, 3 left."
    // Terms I: "A SHAPE is a set of QUARTERS."
    private static void grid() {
        QuarterBoards x = outline("box 0 0 8 8");
        T.due("all QUARTERS", x.area(true, 0), 256);
        T.due("the first one", x.has(true, 0, 0), 1);
        T.due("the last one", x.has(true, 0, 255), 1);
        T.due("one beyond", x.has(true, 0, 256), -1);
        T.due("twice the same is once", outline("quarter 0 0 0+quarter 0 0 0").area(true, 0), 1);
    }

    // Terms I: "QUARTER d of the CELL x, y has the number 4 * (8 * y + x) + d."
    private static void numbersOfQuarters() {
        T.due("the first QUARTER", only("quarter 0 0 0"), 0);
        T.due("the last of the first CELL", only("quarter 0 0 3"), 3);
        T.due("the first of the next CELL", only("quarter 1 0 0"), 4);
        T.due("the last of the first row", only("quarter 7 0 3"), 31);
        T.due("the first of the next row", only("quarter 0 1 0"), 32);
        T.due("the first of the last CELL", only("quarter 7 7 0"), 252);
        T.due("the last QUARTER", only("quarter 7 7 3"), 255);
    }

    // Terms I: "QUARTERS that share a side hang together: d and the next (3 and 0) of one CELL;"
    private static void hangInOneCell() {
        for (int d = 0; d < 4; d++) {
            for (int e = 0; e < 4; e++) {
                boolean hang = d == e || (d + 1) % 4 == e || (e + 1) % 4 == d;
                T.due("pieces of " + d + " and " + e,
                    outline("quarter 3 3 " + d + "+quarter 3 3 " + e).pieces(true, 0), hang ? 1 : 2);
            }
        }
    }

    // Terms I: "1 and 3, 2 and 0 of CELLS side by side there."
    private static void hangSideBySide() {
        for (int d = 0; d < 4; d++) {
            for (int e = 0; e < 4; e++) {
                T.due("pieces of " + d + " and right of it " + e,
                    outline("quarter 3 3 " + d + "+quarter 4 3 " + e).pieces(true, 0), d == 1 && e == 3 ? 1 : 2);
                T.due("pieces of " + d + " and below it " + e,
                    outline("quarter 3 3 " + d + "+quarter 3 4 " + e).pieces(true, 0), d == 2 && e == 0 ? 1 : 2);
            }
        }
        // seen from a lower CELL, and from one to the right, where the way leads round from an earlier QUARTER
        for (int d = 0; d < 4; d++) {
            T.due("above it " + d, outline("box 2 2 1 4+box 2 5 3 1+quarter 4 4 " + d).pieces(true, 0), d == 2 ? 1 : 2);
            T.due("left of it " + d, outline("box 2 2 3 1+box 4 2 1 3+quarter 3 4 " + d).pieces(true, 0), d == 1 ? 1 : 2);
        }
        // the GRID does not go on at its other rim, nor a row in the next one
        T.due("at the right rim", outline("quarter 7 3 1+quarter 0 3 3").pieces(true, 0), 2);
        T.due("at a row's end", outline("quarter 7 3 1+quarter 0 4 3").pieces(true, 0), 2);
        T.due("at a row's beginning", outline("quarter 0 3 3+quarter 7 2 1").pieces(true, 0), 2);
        T.due("at the lower rim", outline("quarter 3 7 2+quarter 3 0 0").pieces(true, 0), 2);
        T.due("in the last column", outline("quarter 6 7 1+quarter 7 7 3").pieces(true, 0), 1);
        T.due("in the last row", outline("quarter 7 6 2+quarter 7 7 0").pieces(true, 0), 1);
        T.due("in the first ones", outline("quarter 0 0 1+quarter 1 0 3").pieces(true, 0), 1);
        T.due("in the first ones", outline("quarter 0 0 2+quarter 0 1 0").pieces(true, 0), 1);
    }

    // Terms I: "A PIECE of a SHAPE: QUARTERS that hang together, with all that hang with these."
    private static void pieceWithAllThatHang() {
        T.due("the whole GRID", outline("box 0 0 8 8").pieces(true, 0), 1);
        T.due("the longest way", outline("box 0 0 8 1+cell 7 1+box 0 2 8 1+cell 0 3+box 0 4 8 1+cell 7 5+box 0 6 8 1"
            + "+cell 0 7").pieces(true, 0), 1);
        // round three sides of a gap, whichever way it is open: the way goes up and back to the left, too
        for (String words : new String[] {"", "turn ", "turn turn ", "turn turn turn "}) {
            T.due(words + "round a gap", outline(words + "(box 0 0 8 8-box 1 0 6 7)").pieces(true, 0), 1);
            T.due(words + "two bars", outline(words + "(box 0 0 8 8-box 1 0 6 8)").pieces(true, 0), 2);
        }
        QuarterBoards x = Harness.house("outline a=quarter 0 0 0+quarter 0 0 2+quarter 1 0 1+quarter 1 0 3;"
            + "outline b=a+shift 2 0 a;outline c=b+shift 4 0 b;outline d=c+shift 0 1 flip c;"
            + "outline e=d+shift 0 2 d;outline f=e+shift 0 4 e;");
        T.due("two QUARTERS of each CELL, none of which hang together", x.pieces(true, 5), 128);
        T.due("each with three CORNERS", x.corners(true, 5, false), 384);
        T.due("but without INWARD ones", x.corners(true, 5, true), 0);
        T.due("corners touch, sides don't", outline("cell 0 0+cell 1 1+cell 2 2+cell 3 3+cell 4 4+cell 5 5+cell 6 6"
            + "+cell 7 7").pieces(true, 0), 8);
        T.due("one QUARTER", outline("quarter 7 7 3").pieces(true, 0), 1);
    }

    // Terms I: "TURN: the CELL x, y goes to 7 - y, x, QUARTER d to the next one (3 to 0)."
    private static void turn() {
        for (int d = 0; d < 4; d++) {
            T.due("turned " + d, only("turn quarter 1 2 " + d), number(5, 1, (d + 1) % 4));
        }
        T.due("the upper left", only("turn quarter 0 0 3"), number(7, 0, 0));
        T.due("the upper right", only("turn quarter 7 0 3"), number(7, 7, 0));
        T.due("the lower right", only("turn quarter 7 7 3"), number(0, 7, 0));
        T.due("the lower left", only("turn quarter 0 7 3"), number(0, 0, 0));
        T.due("four times", only("turn turn turn turn quarter 1 2 3"), number(1, 2, 3));
    }

    // Terms I: "FLIP: x, y to 7 - x, y, 1 to 3, 3 to 1."
    private static void flip() {
        for (int d = 0; d < 4; d++) {
            T.due("flipped " + d, only("flip quarter 0 2 " + d), number(7, 2, (4 - d) % 4));
            T.due("flipped " + d, only("flip quarter 7 2 " + d), number(0, 2, (4 - d) % 4));
        }
        T.due("twice", only("flip flip quarter 1 2 3"), number(1, 2, 3));
    }

    // Terms I: "BASE: it is SHIFTED so that its least x and its least y are 0."
    private static void base() {
        T.due("of the last CELL", only("base quarter 7 7 3"), 3);
        T.due("of the first CELL", only("base quarter 0 0 3"), 3);
        QuarterBoards x = outline("base (quarter 7 3 1+quarter 5 6 2)");
        T.due("its least x is not its upper one's", x.has(true, 0, number(2, 0, 1)), 1);
        T.due("its least y is not its left one's", x.has(true, 0, number(0, 3, 2)), 1);
        T.due("the whole GRID", outline("base box 0 0 8 8").area(true, 0), 256);
    }

    // Terms I: "IMAGE g (0 .. 7) of a SHAPE: FLIPPED first, if g is 4 or more, then TURNED as often as the rest of
    // g by 4 tells, then its BASE."
    private static void imageNumbers() {
        // QUARTER 1 of one CELL: its IMAGES tell how it was turned
        int[] want = {1, 2, 3, 0, 3, 0, 1, 2};
        QuarterBoards x = Harness.house("outline o=quarter 5 6 1;board b=cell 5 6+quarter 6 6 3+quarter 5 7 0;");
        for (int g = 0; g < 8; g++) {
            T.due("IMAGE " + g, x.least(true, 0, g), want[g]);
        }
        T.due("IMAGE 8", x.least(true, 0, 8), -1);
        T.due("IMAGE -1", x.least(true, 0, -1), -1);
    }

    // Terms I: "Two SHAPES are ALIKE if an IMAGE of one is the BASE of the other one."
    private static void alikeShapes() {
        String l = "(box 0 0 1 3+cell 1 2)";
        QuarterBoards x = Harness.house("outline a=" + l + ";outline b=shift 1 1 base turn flip " + l
            + ";outline c=box 0 0 4 1;outline d=box 0 0 1 4;outline e=box 7 4 1 4;");
        for (int one = 0; one < 5; one++) {
            for (int other = 0; other < 5; other++) {
                T.due("alike(" + one + ", " + other + ")", x.alike(one, other) >= 0, one < 2 == other < 2);
            }
        }
    }

    // Terms I: "A POINT is a corner of CELLS or the middle of one; round it lie 8 QUARTERS (fewer at the GRID's
    // rim) or 4."
    // Terms I: "Each row of QUARTERS of a SHAPE that lie one behind the other round it, with none of the SHAPE
    // beside at both ends, has an angle: 45 (90 in the middle) for each."
    // Terms I: "It is a CORNER: OUTWARD below 180, INWARD above; none at 180 or all round"
    private static void roundAPoint() {
        // with 4 it is a triangle, with 8 a square on its tip
        int[] outward = {3, 3, 4, 3, 4, 4, 5, 4};
        for (int start = 0; start < 8; start++) {
            StringBuilder e = new StringBuilder();
            for (int many = 1; many <= 8; many++) {
                e.append(many == 1 ? "" : "+").append("quarter ").append(ROUND[(start + many - 1) % 8]);
                QuarterBoards x = outline(e.toString());
                boolean inward = many >= 5 && many <= 7;
                T.due("INWARD at " + 45 * many, x.corners(true, 0, true), inward ? 1 : 0);
                T.due("BULGES at " + 45 * many, x.bulges(true, 0), inward ? 0 : 1);
                if (start % 2 == 0) {
                    T.due("OUTWARD at " + 45 * many, x.corners(true, 0, false), outward[many - 1]);
                }
            }
        }
    }

    // Terms I: "45 (90 in the middle) for each."
    private static void roundAMiddle() {
        int[] outward = {3, 3, 4, 4};
        for (int start = 0; start < 4; start++) {
            StringBuilder e = new StringBuilder();
            for (int many = 1; many <= 4; many++) {
                e.append(many == 1 ? "" : "+").append("quarter 3 3 ").append((start + many - 1) % 4);
                QuarterBoards x = outline(e.toString());
                T.due("OUTWARD, " + many + " from " + start, x.corners(true, 0, false), outward[many - 1]);
                T.due("INWARD, " + many + " from " + start, x.corners(true, 0, true), many == 3 ? 1 : 0);
                T.due("BULGES, " + many + " from " + start, x.bulges(true, 0), many == 3 ? 0 : 1);
            }
        }
    }

    // Terms I: "(what is beyond the rim is not of the SHAPE)."
    private static void atTheRim() {
        // where all QUARTERS round a POINT of the rim are there it is 180, and 90 in the GRID's corners
        corners("box 0 0 8 8", 4, 0);
        corners("box 0 0 8 1", 4, 0);
        corners("box 7 0 1 8", 4, 0);
        for (String cell : new String[] {"0 0", "7 0", "0 7", "7 7", "0 3", "7 3", "3 0", "3 7"}) {
            corners("cell " + cell, 4, 0);
            for (int d = 0; d < 4; d++) {
                corners("quarter " + cell + " " + d, 3, 0);
            }
        }
        // 135 twice beside the gap, 270 in the middle
        for (String gap : new String[] {"3 0 0", "7 3 1", "3 7 2", "0 3 3"}) {
            corners("box 0 0 8 8-quarter " + gap, 6, 1);
        }
        // in the GRID's corner 45 is left, and 135 beside it
        corners("box 0 0 8 8-quarter 0 0 0", 5, 1);
        corners("box 0 0 8 8-half 0 0 3", 5, 0);
    }

    private static void corners(String e, int outward, int inward) {
        QuarterBoards x = outline(e);
        T.due("OUTWARD of " + e, x.corners(true, 0, false), outward);
        T.due("INWARD of " + e, x.corners(true, 0, true), inward);
    }

    // Terms I: "Each row of QUARTERS of a SHAPE that lie one behind the other round it, with none of the SHAPE
    // beside at both ends, has an angle"
    private static void rowsOfOnePoint() {
        // two rows of two, two of one in a middle, four of one
        corners("cell 3 3+cell 4 4", 8, 0);
        corners("quarter 3 3 0+quarter 3 3 2", 6, 0);
        corners("quarter " + ROUND[0] + "+quarter " + ROUND[2] + "+quarter " + ROUND[4] + "+quarter " + ROUND[6], 12, 0);
        // a row of three and one of three: none is INWARD, though together they are more than 180
        corners("quarter " + ROUND[0] + "+quarter " + ROUND[1] + "+quarter " + ROUND[2] + "+quarter " + ROUND[4]
            + "+quarter " + ROUND[5] + "+quarter " + ROUND[6], 8, 0);
    }

    // Terms I: "A SHAPE BULGES if it has one PIECE and no INWARD CORNER."
    private static void bulging() {
        T.due("two PIECES without", outline("cell 0 0+cell 2 2").bulges(true, 0), 0);
        T.due("two PIECES that touch", outline("cell 0 0+cell 1 1").bulges(true, 0), 0);
        T.due("one PIECE with one", outline("box 0 0 2 1+cell 0 1").bulges(true, 0), 0);
        T.due("one PIECE with a hole", outline("box 0 0 3 3-cell 1 1").bulges(true, 0), 0);
        T.due("one PIECE without", outline("box 0 0 8 8").bulges(true, 0), 1);
        T.due("one QUARTER", outline("quarter 7 7 3").bulges(true, 0), 1);
    }

    private static QuarterBoards ofEach() {
        return Harness.house("board a=quarter 0 0 0;board b=half 0 0 0;outline c=cell 7 7;");
    }

    // Promise 6: "How many QUARTERS a SHAPE has: a board k, or (outline) an outline; NONE: there is none such."
    private static void area() {
        QuarterBoards x = ofEach();
        T.due("the first board", x.area(false, 0), 1);
        T.due("the last board", x.area(false, 1), 2);
        T.due("one behind", x.area(false, 2), -1);
        T.due("the last outline", x.area(true, 0), 4);
        T.due("one behind", x.area(true, 1), -1);
        T.due("the greatest", outline("box 0 0 8 8").area(true, 0), 256);
        QuarterBoards full = Harness.house(Harness.eightAndSix());
        T.due("the eighth board", full.area(false, 7), 4);
        T.due("a ninth one", full.area(false, 8), -1);
        T.due("the sixth outline", full.area(true, 5), 4);
        T.due("a seventh one", full.area(true, 6), -1);
        for (int k : BEYOND) {
            T.due("board " + k, full.area(false, k), -1);
            T.due("outline " + k, full.area(true, k), -1);
        }
    }

    // Promise 7: "1 if a SHAPE, as it was told, has a QUARTER (0 .. 255), else 0; NONE: no such ones."
    private static void has() {
        QuarterBoards x = Harness.house("board a=quarter 0 0 0;outline b=quarter 7 7 3;outline c=quarter 3 3 0;");
        T.due("the first QUARTER", x.has(false, 0, 0), 1);
        T.due("the next one", x.has(false, 0, 1), 0);
        T.due("the last QUARTER", x.has(true, 0, 255), 1);
        T.due("the one ahead", x.has(true, 0, 254), 0);
        T.due("as it was told, not its BASE", x.has(true, 1, 0), 0);
        T.due("as it was told", x.has(true, 1, number(3, 3, 0)), 1);
        T.due("QUARTER 256", x.has(true, 0, 256), -1);
        T.due("board 1", x.has(false, 1, 0), -1);
        T.due("outline 2", x.has(true, 2, 0), -1);
        for (int beyond : BEYOND) {
            T.due("QUARTER " + beyond, x.has(true, 0, beyond), -1);
            T.due("board " + beyond, x.has(false, beyond, 0), -1);
            T.due("outline " + beyond, x.has(true, beyond, 0), -1);
        }
    }

    // Promise 8: "How many PIECES a SHAPE has; NONE: there is none such."
    private static void pieces() {
        QuarterBoards x = ofEach();
        T.due("the last board", x.pieces(false, 1), 1);
        T.due("one behind", x.pieces(false, 2), -1);
        T.due("the last outline", x.pieces(true, 0), 1);
        T.due("one behind", x.pieces(true, 1), -1);
        for (int k : BEYOND) {
            T.due("board " + k, x.pieces(false, k), -1);
            T.due("outline " + k, x.pieces(true, k), -1);
        }
    }

    // Promise 9: "How many CORNERS a SHAPE has, OUTWARD or (inward) INWARD ones; NONE: there is none such."
    private static void corners() {
        QuarterBoards x = ofEach();
        T.due("OUTWARD ones", x.corners(false, 1, false), 3);
        T.due("INWARD ones", x.corners(false, 1, true), 0);
        for (int inward = 0; inward < 2; inward++) {
            T.due("board 2", x.corners(false, 2, inward == 1), -1);
            T.due("outline 1", x.corners(true, 1, inward == 1), -1);
            for (int k : BEYOND) {
                T.due("board " + k, x.corners(false, k, inward == 1), -1);
                T.due("outline " + k, x.corners(true, k, inward == 1), -1);
            }
        }
    }

    // Promise 10: "1 if a SHAPE BULGES, else 0; NONE: there is none such."
    private static void bulges() {
        QuarterBoards x = ofEach();
        T.due("the last board", x.bulges(false, 1), 1);
        T.due("one behind", x.bulges(false, 2), -1);
        T.due("the last outline", x.bulges(true, 0), 1);
        T.due("one behind", x.bulges(true, 1), -1);
        for (int k : BEYOND) {
            T.due("board " + k, x.bulges(false, k), -1);
            T.due("outline " + k, x.bulges(true, k), -1);
        }
    }

    // Promise 11: "How many different IMAGES a SHAPE has; NONE: there is none such."
    private static void images() {
        String[] shapes = {"cell 7 7", "box 0 0 8 8", "box 0 0 8 1", "quarter 3 3 1", "half 3 3 3",
            "box 0 0 2 2-half 0 0 3-half 1 1 1", "box 0 0 3 1+half 0 1 0", "cell 1 0+box 0 1 2 1+cell 0 2"};
        int[] many = {1, 1, 2, 4, 4, 2, 8, 4};
        for (int i = 0; i < shapes.length; i++) {
            T.due("IMAGES of " + shapes[i], outline(shapes[i]).images(true, 0), many[i]);
        }
        QuarterBoards x = ofEach();
        T.due("board 2", x.images(false, 2), -1);
        T.due("outline 1", x.images(true, 1), -1);
        for (int k : BEYOND) {
            T.due("board " + k, x.images(false, k), -1);
            T.due("outline " + k, x.images(true, k), -1);
        }
    }

    // Promise 12: "The least QUARTER of IMAGE g of a SHAPE; NONE: there are none such."
    private static void least() {
        QuarterBoards x = Harness.house("board a=quarter 7 7 3;board b=quarter 7 0 1+quarter 0 7 0;outline c=half 3 3 1;");
        T.due("g 0", x.least(false, 0, 0), 3);
        T.due("g 7", x.least(false, 0, 7), 0);
        T.due("g 8", x.least(false, 0, 8), -1);
        // its upper one is in the last column of the first row
        T.due("the upper one", x.least(false, 1, 0), number(7, 0, 1));
        T.due("board 2", x.least(false, 2, 0), -1);
        T.due("the last outline", x.least(true, 0, 0), 1);
        T.due("outline 1", x.least(true, 1, 0), -1);
        for (int beyond : BEYOND) {
            T.due("g " + beyond, x.least(true, 0, beyond), -1);
            T.due("board " + beyond, x.least(false, beyond, 0), -1);
            T.due("outline " + beyond, x.least(true, beyond, 0), -1);
        }
    }

    // Promise 13: "The least g by which IMAGE g of an outline is the BASE of another one;"
    private static void alike() {
        for (int g = 0; g < 8; g++) {
            String words = new String[] {"", "turn ", "turn turn ", "turn turn turn "}[g % 4] + (g >= 4 ? "flip " : "");
            // of eight different IMAGES g itself; of a half the least g of two; of a CELL always 0
            QuarterBoards x = Harness.house("outline a=box 0 0 3 1+half 0 1 0;outline b=" + words + "a;"
                + "outline c=half 3 3 0;outline d=" + words + "c;outline e=cell 3 3;outline f=" + words + "e;");
            T.due("of eight, " + g, x.alike(0, 1), g);
            T.due("of four, " + g, x.alike(2, 3), new int[] {0, 1, 2, 3, 3, 0, 1, 2}[g]);
            T.due("of one, " + g, x.alike(4, 5), 0);
            // back again by the turns that are left; what is flipped comes back by itself
            T.due("back from " + g, x.alike(1, 0), g >= 4 ? g : (4 - g) % 4);
            T.due("of itself", x.alike(1, 1), 0);
        }
    }

    // Promise 13: "-2: they are not ALIKE;"
    private static void alikeIsNot() {
        QuarterBoards x = Harness.house("outline a=box 0 0 2 1;outline b=cell 0 0+cell 1 1;outline c=quarter 0 0 0;"
            + "outline d=box 0 0 8 8;outline e=cell 0 0+cell 2 0;outline f=box 0 0 8 8-quarter 7 7 3;");
        for (int one = 0; one < 6; one++) {
            for (int other = 0; other < 6; other++) {
                T.due("alike(" + one + ", " + other + ")", x.alike(one, other), one == other ? 0 : -2);
            }
        }
    }

    // Promise 13: "NONE: no such ones."
    private static void noSuchOutlines() {
        QuarterBoards x = Harness.house("board a=cell 0 0;board b=cell 0 0;outline c=cell 0 0;");
        T.due("one behind", x.alike(1, 0), -1);
        T.due("one behind", x.alike(0, 1), -1);
        T.due("both behind", x.alike(1, 1), -1);
        for (int beyond : BEYOND) {
            T.due("alike(" + beyond + ", 0)", x.alike(beyond, 0), -1);
            T.due("alike(0, " + beyond + ")", x.alike(0, beyond), -1);
        }
        T.due("of a new object", new QuarterBoards().alike(0, 0), -1);
    }
}
