/** The edges of THE CUT (part III of the document's terms) and of promises 21 to 23. */
public final class CutEdgeTest {
    private static final Harness T = new Harness("CutEdgeTest");
    private static final int[] BEYOND = {-1, Integer.MIN_VALUE, Integer.MAX_VALUE};

    public static void main(String[] args) {
        firstPartOfOnePiece();
        secondPartOfOnePiece();
        farthestShifts();
        beyondTheGrid();
        someInCommon();
        whatIsLeft();
        firstByItsImage();
        alikeNeedNone();
        remembersTheCut();
        noCut();
        noSuchCut();
        part();
        noPart();
        laid();
        laidOfAlikeOnes();
        nothingLaid();
        T.finish();
    }

    private static void cut(QuarterBoards x, int parts, int g, int a, int b) {
        T.due("cut(0, 1)", x.cut(0, 1), parts);
        T.due("g", x.laid(0), g);
        T.due("a", x.laid(1), a);
        T.due("b", x.laid(2), b);
    }

    private static void none(QuarterBoards x) {
        cut(x, -2, -100, -100, -100);
        T.due("part(0)", x.part(0), -1);
    }

    /** The PARTS of the first CELLS of a row, by each CELL's first QUARTER. */
    private static String row(QuarterBoards x, int y) {
        StringBuilder seen = new StringBuilder();
        for (int cell = 0; cell < 4; cell++) {
            int part = x.part(4 * (8 * y + cell));
            seen.append(part < 0 ? "." : String.valueOf(part));
        }
        return seen.toString();
    }

    // Terms III: "CUT: an outline is cut in two PARTS, each of one PIECE, that make another one:"
    private static void firstPartOfOnePiece() {
        // unshifted the common CELLS are 2 0 and 0 1, which do not hang together, and what is left is ALIKE
        QuarterBoards x = Harness.house("outline a=box 2 2 2 1+cell 0 3;outline b=box 2 2 2 1+cell 1 3;");
        cut(x, 2, 0, 1, 0);
        T.due("row 0", row(x, 0), "..00");
        T.due("row 1", row(x, 1), "1...");
    }

    // Terms III: "each of one PIECE"
    private static void secondPartOfOnePiece() {
        // shifted by -2 the common CELL is 1 2, and what is left, two CELLS apart, is ALIKE
        QuarterBoards x = Harness.house("outline a=box 2 2 2 1+cell 1 0;outline b=box 2 2 2 1+cell 0 0;");
        cut(x, 2, 0, -1, 0);
        T.due("row 0", row(x, 0), "1...");
        T.due("row 2", row(x, 2), ".00.");
        // three PIECES cannot be two PARTS
        none(Harness.house("outline a=cell 0 0+cell 2 0+cell 4 0;outline b=box 0 0 3 1;"));
        none(Harness.house("outline a=box 0 0 3 1;outline b=cell 0 0+cell 2 0+cell 4 0;"));
        // two can
        cut(Harness.house("outline a=cell 0 0+cell 2 0;outline b=box 0 0 2 1;"), 2, 0, -1, 0);
        cut(Harness.house("outline a=box 0 0 2 1;outline b=cell 0 0+cell 2 0;"), 2, 0, -2, 0);
    }

    // Terms III: "an IMAGE g of that, SHIFTED by a, b (each -7 .. 7;"
    private static void farthestShifts() {
        // the one QUARTER in common lies at one end of a and at the other end of b
        String left = "(cell 0 3+half 1 3 3+quarter 0 4 0)";
        int[][] want = {{7, 0}, {0, 7}, {-7, 0}, {0, -7}};
        String words = "";
        for (int[] ab : want) {
            cut(Harness.house("outline a=" + words + "(quarter 7 0 1+" + left + ");outline b=" + words
                + "(quarter 0 0 1+shift 6 3 base turn " + left + ");"), 2, 0, ab[0], ab[1]);
            words = words + "turn ";
        }
    }

    // Terms III: "what is beyond the GRID is still there),"
    private static void beyondTheGrid() {
        // a row of eight on a box of four by two: four of its CELLS are beyond the GRID
        QuarterBoards x = Harness.house("outline a=box 2 2 4 2;outline b=box 0 5 8 1;");
        cut(x, 2, 0, -4, 0);
        T.due("row 0", row(x, 0), "0000");
        T.due("row 1", row(x, 1), "1111");
        // a column of eight, which goes beyond it above
        QuarterBoards y = Harness.house("outline a=box 2 2 2 4;outline b=box 5 0 1 8;");
        cut(y, 2, 0, 0, -4);
        T.due("row 3", row(y, 3), "01..");
        // beyond the left and the upper rim, beyond the right and the lower one
        cut(Harness.house("outline a=quarter 0 0 0+box 6 6 2 1;outline b=quarter 7 7 0+box 0 0 1 2;"), 2, 0, -7, -7);
        QuarterBoards z = Harness.house("outline a=quarter 7 7 0+box 0 0 1 2;outline b=quarter 0 0 0+box 6 6 2 1;");
        cut(z, 2, 0, 7, 7);
    }

    // Terms III: "has some QUARTERS in common with the BASE of the first: these are the first PART, what is left of
    // the first one the second PART;"
    private static void someInCommon() {
        // one QUARTER is enough
        QuarterBoards x = Harness.house("outline a=quarter 7 7 0+quarter 7 7 2;outline b=half 3 3 0;");
        cut(x, 2, 0, 0, 0);
        T.due("QUARTER 0", x.part(0), 0);
        T.due("QUARTER 1", x.part(1), -1);
        T.due("QUARTER 2", x.part(2), 1);
        // the BASE of the first, not as it was told: 255 is not of it
        T.due("QUARTER 252", x.part(252), -1);
    }

    // Terms III: "what is left of the other one must be ALIKE to that."
    private static void whatIsLeft() {
        // turned and mirrored it is ALIKE still
        QuarterBoards x = Harness.house("outline p=cell 0 0+quarter 1 0 3;outline q=p;");
        T.due("cut of ALIKE ones", x.cut(0, 1), 1);
        String three = "(half 0 0 0+quarter 1 0 3)";
        cut(Harness.house("outline a=box 0 0 2 2+shift 3 0 " + three + ";outline b=box 0 0 2 2+shift 3 2 base turn flip "
            + three + ";"), 2, 0, 0, 0);
        // as many QUARTERS, but not ALIKE
        none(Harness.house("outline a=cell 0 0+quarter 2 0 0+quarter 4 0 0;outline b=cell 0 0+half 2 0 0;"));
        // not as many
        none(Harness.house("outline a=cell 0 0;outline b=cell 0 0+quarter 1 0 3;"));
        none(Harness.house("outline a=cell 0 0+quarter 1 0 3;outline b=cell 0 0;"));
        none(Harness.house("outline a=quarter 0 0 0;outline b=box 0 0 8 8;"));
        // the least that can be cut
        cut(Harness.house("outline a=half 0 0 0;outline b=quarter 0 0 0+quarter 0 0 2;"), 2, 0, 0, 0);
    }

    // Terms III: "THE CUT: the first by g, then b, then a."
    private static void firstByItsImage() {
        // two CELLS askew make two in a row: by g 0 at -1 1, 0 0, 0 1 and 1 0; by g 1 already with b -1
        QuarterBoards x = Harness.house("outline a=cell 2 2+cell 3 1;outline b=box 1 2 2 1;");
        cut(x, 2, 0, 0, 0);
        T.due("row 0", row(x, 0), ".0..");
        T.due("row 1", row(x, 1), "1...");
        // by the last g alone
        QuarterBoards y = Harness.house("outline a=box 2 2 1 1+half 3 2 2+box 1 0 2 1+cell 1 1;"
            + "outline b=box 2 2 1 1+half 3 2 2+box 2 0 2 1+cell 2 1;");
        cut(y, 2, 7, 0, 0);
    }

    // Terms III: "(Outlines that are ALIKE need none.)"
    private static void alikeNeedNone() {
        // it could be cut as well: two rows of two
        QuarterBoards x = Harness.house("outline a=box 3 3 2 2;outline b=box 6 6 2 2;");
        cut(x, 1, 0, 0, 0);
        for (int quarter = 0; quarter < 8; quarter++) {
            T.due("the one PART is the whole", x.part(quarter), 0);
        }
        T.due("of one and the same", x.cut(1, 1), 1);
        // of more than two PIECES, too
        cut(Harness.house("outline a=cell 0 0+cell 2 0+cell 4 0;outline b=cell 7 0+cell 7 2+cell 7 4;"), 1, 1, 0, 0);
    }

    // Promise 21: "THE CUT of an outline that makes another one is remembered: how many PARTS: 1 if they are ALIKE
    // (the one PART is the whole), 2."
    private static void remembersTheCut() {
        QuarterBoards x = Harness.house("board z=cell 0 0;outline a=cell 0 0+cell 2 0;outline b=box 0 0 2 1;");
        cut(x, 2, 0, -1, 0);
        x.fill(0, 1);
        x.sets(0);
        x.lay(0, 0, 0, 0);
        x.claim(0, 0, 1);
        Harness.read(x, "?");
        T.due("other calls leave it", x.laid(1), -1);
        T.due("other calls leave it", row(x, 0), "0.1.");
        T.due("the other way round", x.cut(1, 0), 2);
        T.due("the latest is remembered", x.laid(1), -2);
        T.due("the latest is remembered", row(x, 0), "01..");
        T.due("of itself", x.cut(1, 1), 1);
        T.due("the latest is remembered", row(x, 0), "00..");
    }

    // Promise 21: "-2, and nothing is remembered: there is none;"
    private static void noCut() {
        QuarterBoards x = Harness.house("outline a=cell 0 0;outline b=half 0 0 0;");
        x.cut(0, 0);
        T.due("remembered", x.laid(0), 0);
        none(x);
        T.due("laid", x.laid(1), -100);
        for (int quarter = 0; quarter < 4; quarter++) {
            T.due("part", x.part(quarter), -1);
        }
    }

    // Promise 21: "NONE, likewise: no such ones."
    private static void noSuchCut() {
        QuarterBoards x = Harness.house("board c=cell 0 0;board d=cell 0 0;outline a=cell 0 0;");
        for (int beyond : new int[] {1, 6, -1, Integer.MIN_VALUE, Integer.MAX_VALUE}) {
            for (int which = 0; which < 3; which++) {
                T.due("cut(0, 0)", x.cut(0, 0), 1);
                T.due("cut with " + beyond, x.cut(which == 1 ? 0 : beyond, which == 0 ? 0 : beyond), -1);
                T.due("nothing is remembered", x.laid(0), -100);
                T.due("nothing is remembered", x.part(0), -1);
            }
        }
        T.due("of a new object", new QuarterBoards().cut(0, 0), -1);
        QuarterBoards y = Harness.house(Harness.eightAndSix());
        T.due("the last outlines", y.cut(5, 5), 1);
        T.due("one behind", y.cut(5, 6), -1);
        T.due("one behind", y.cut(6, 5), -1);
    }

    // Promise 22: "In which PART (0, 1) of THE CUT that is remembered a QUARTER of the BASE of its first outline
    // is;"
    private static void part() {
        QuarterBoards x = Harness.house("outline a=box 0 0 8 8;outline b=box 0 0 8 8;");
        x.cut(0, 1);
        T.due("the first QUARTER", x.part(0), 0);
        T.due("the last QUARTER", x.part(255), 0);
        T.due("one beyond", x.part(256), -1);
    }

    // Promise 22: "NONE: it has it not, none is remembered."
    private static void noPart() {
        QuarterBoards x = Harness.house("outline a=cell 3 3;outline b=quarter 0 0 0;");
        T.due("none is remembered", x.part(0), -1);
        x.cut(0, 0);
        T.due("it has it", x.part(3), 0);
        T.due("it has it not", x.part(4), -1);
        T.due("its BASE has it not", x.part(4 * 27), -1);
        T.due("QUARTER 256", x.part(256), -1);
        for (int beyond : BEYOND) {
            T.due("QUARTER " + beyond, x.part(beyond), -1);
        }
        T.due("of a new object", new QuarterBoards().part(0), -1);
    }

    // Promise 23: "Of THE CUT that is remembered: what 0 g, 1 a, 2 b"
    private static void laid() {
        cut(Harness.house("outline a=box 2 2 2 4;outline b=box 0 5 8 1;"), 2, 1, 0, -4);
    }

    // Promise 23: "(of ALIKE ones the least g by which the IMAGE of the other is the BASE of the first; 0, 0)."
    private static void laidOfAlikeOnes() {
        for (int g = 0; g < 4; g++) {
            String words = "turn ".repeat(g);
            // IMAGE g of the other one is the first one: the turns are done to that
            QuarterBoards x = Harness.house("outline b=box 0 0 3 1+half 0 1 0;outline a=" + words + "b;"
                + "outline d=half 3 3 0;outline c=" + words + "flip d;");
            T.due("cut", x.cut(1, 0), 1);
            T.due("g", x.laid(0), g);
            T.due("a", x.laid(1), 0);
            T.due("b", x.laid(2), 0);
            T.due("cut", x.cut(0, 1), 1);
            T.due("the other way round", x.laid(0), (4 - g) % 4);
            T.due("cut", x.cut(3, 2), 1);
            T.due("the least of two", x.laid(0), (g + 3) % 4);
        }
    }

    // Promise 23: "-100: none is, no such one."
    private static void nothingLaid() {
        QuarterBoards x = Harness.house("outline a=cell 3 3;");
        T.due("none is", x.laid(0), -100);
        x.cut(0, 0);
        T.due("what 2", x.laid(2), 0);
        T.due("what 3", x.laid(3), -100);
        for (int beyond : BEYOND) {
            T.due("what " + beyond, x.laid(beyond), -100);
        }
        T.due("of a new object", new QuarterBoards().laid(0), -100);
    }
}
