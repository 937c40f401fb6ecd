/** The edges of FILLINGS (part III of the document's terms) and of promises 15 to 20. */
public final class FillEdgeTest {
    private static final Harness T = new Harness("FillEdgeTest");
    private static final int[] BEYOND = {-1, Integer.MIN_VALUE, Integer.MAX_VALUE};
    private static final String TWO_CELLS = "board a=cell 0 0;board b=cell 0 0;";

    public static void main(String[] args) {
        laysOnTheGrid();
        numbersOfSets();
        wholeAndNoMore();
        leastImage();
        lesserBoardFirst();
        lesserImageNext();
        nextQuarter();
        stepsThatDoNotFit();
        lastStep();
        offIsNoStep();
        otherAreas();
        manyFillings();
        noFilling();
        fullFilling();
        noSuchFilling();
        filled();
        notFilled();
        steps();
        fills();
        sets();
        fullSets();
        noSuchSets();
        setByNumber();
        setIsFull();
        setsThatAreNot();
        needed();
        neededIsFull();
        nothingNeeded();
        T.finish();
    }

    private static void fill(QuarterBoards x, int set, int many, int steps) {
        T.due("fill(0, " + set + ")", x.fill(0, set), many);
        T.due("steps()", x.steps(), steps);
    }

    // Terms III: "A LAY of a board: IMAGE g of it, SHIFTED by a, b (so that it does not go OFF)."
    private static void laysOnTheGrid() {
        // the last CELLS of each side: in a corner of the GRID a board lies whole
        for (String cell : new String[] {"0 0", "7 0", "0 7", "7 7"}) {
            QuarterBoards x = Harness.house("board a=quarter 3 3 0;outline o=quarter " + cell + " 2;");
            fill(x, 1, 1, 1);
            T.due("g", x.filled(0, 0), 2);
            T.due("a", x.filled(0, 1), cell.charAt(0) - '0');
            T.due("b", x.filled(0, 2), cell.charAt(2) - '0');
        }
        fill(Harness.house("board a=box 0 0 8 8;outline o=box 0 0 8 8;"), 1, 1, 1);
    }

    // Terms III: "A SET: boards (bits)."
    private static void numbersOfSets() {
        QuarterBoards x = Harness.house(Harness.eightAndSix());
        for (int board = 0; board < 8; board++) {
            T.due("board " + board + " alone", x.fill(0, 1 << board), 1);
            T.due("is in it", x.filled(board, 0), 0);
            T.due("another is not", x.filled((board + 1) % 8, 0), -100);
        }
        T.due("the greatest SET", x.fill(0, 255), 0);
        T.due("one of a ninth board", x.fill(0, 256), -1);
        QuarterBoards y = Harness.house(TWO_CELLS + "outline o=box 0 0 2 1;");
        T.due("both", y.fill(0, 3), 2);
        T.due("one of a third board", y.fill(0, 4), -1);
        T.due("both and a third board", y.fill(0, 7), -1);
    }

    // Terms III: "A FILLING of an outline by a SET: a LAY of each of its boards so that each QUARTER of the outline
    // is in one of them, and no other is."
    private static void wholeAndNoMore() {
        // the same area, but one QUARTER beside
        QuarterBoards x = Harness.house("board a=half 0 0 0+quarter 2 0 0;outline o=half 0 0 0+quarter 2 0 1;");
        T.due("one QUARTER beside", x.fill(0, 1), 0);
        // two that would have to lie on one another
        QuarterBoards y = Harness.house("board a=cell 0 0-quarter 0 0 2;board b=quarter 0 0 0;"
            + "outline o=half 0 0 0+half 2 2 0;");
        T.due("on one another", y.fill(0, 3), 0);
        // outlines and boards of more than one PIECE
        QuarterBoards z = Harness.house("board a=cell 0 0+cell 2 0;board b=cell 0 0+cell 2 0;outline o=box 1 1 4 1;");
        T.due("in one another", z.fill(0, 3), 2);
        T.due("the first one", z.filled(0, 1), 1);
        T.due("and the other one", z.filled(1, 1), 2);
    }

    // Terms III: "(Of a board's IMAGES that are the same only the least g is used.)"
    private static void leastImage() {
        QuarterBoards x = Harness.house("board a=cell 3 3;board b=half 3 3 0;outline o=cell 0 0;outline p=half 0 0 3;");
        fill(x, 1, 1, 1);
        T.due("of eight", x.filled(0, 0), 0);
        T.due("fill", x.fill(1, 2), 1);
        T.due("of 3 and 4", x.filled(1, 0), 3);
        // g 0 and g 3 begin with the same QUARTER, g 4 and g 5 would be the same again
        T.due("steps", x.steps(), 2);
    }

    // Terms III: "FILLINGS come in this order: that first whose LAY of the least QUARTER of the outline is that of
    // the lesser board, then of the lesser g;"
    private static void lesserBoardFirst() {
        // at the least QUARTER board 0 lies by g 1 and board 1 by g 0
        QuarterBoards x = Harness.house("board a=box 0 0 2 1;board b=box 0 0 1 2;outline o=box 0 0 1 2+box 2 0 1 2;");
        fill(x, 3, 2, 8);
        T.due("board 0's g", x.filled(0, 0), 1);
        T.due("board 0's a", x.filled(0, 1), 0);
        T.due("board 1's g", x.filled(1, 0), 0);
        T.due("board 1's a", x.filled(1, 1), 2);
        // where board 0 does not fit at it, board 1 comes first
        QuarterBoards y = Harness.house("board a=cell 0 0;board b=half 0 0 0;outline o=half 0 0 3+cell 0 1;");
        T.due("fill", y.fill(0, 3), 1);
        T.due("board 0", y.filled(0, 2), 1);
        T.due("board 1", y.filled(1, 2), 0);
    }

    // Terms III: "then of the lesser g;"
    private static void lesserImageNext() {
        QuarterBoards x = Harness.house("board a=half 0 0 1;board b=half 0 0 0;outline o=cell 0 0;");
        // of board 0 g 2 is QUARTERS 3 and 0, g 3 is 0 and 1
        T.due("fill", x.fill(0, 3), 4);
        T.due("the lesser g", x.filled(0, 0), 2);
        T.due("what is left for the other board", x.filled(1, 0), 1);
    }

    // Terms III: "then likewise the least QUARTER that this LAY leaves, and so on."
    private static void nextQuarter() {
        QuarterBoards x = Harness.house(TWO_CELLS + "board c=cell 0 0;board d=cell 0 0;outline o=box 6 6 2 2;");
        T.due("fill", x.fill(0, 15), 24);
        for (int board = 0; board < 4; board++) {
            T.due("a of board " + board, x.filled(board, 1), 6 + board % 2);
            T.due("b of board " + board, x.filled(board, 2), 6 + board / 2);
        }
        // the first LAY alone does not tell: board 0 lies the same way in two, of which board 1's lesser g comes first
        QuarterBoards y = Harness.house("board a=box 0 0 2 1;board b=half 0 0 0;board c=half 0 0 0;outline o=box 0 0 3 1;");
        // the first board at two places, the halves in one CELL two ways and in either order
        T.due("fill", y.fill(0, 7), 8);
        T.due("board 0", y.filled(0, 1), 0);
        T.due("board 1", y.filled(1, 0), 0);
        T.due("board 2", y.filled(2, 0), 2);
    }

    // Terms III: "Each LAY that is tried (its board still to be laid, its least QUARTER on that QUARTER) counts as
    // a STEP, whether it fits or not;"
    private static void stepsThatDoNotFit() {
        QuarterBoards x = Harness.house("board a=box 0 0 2 1;outline o=box 0 0 1 2;outline p=cell 0 0+cell 2 2;"
            + "outline q=quarter 0 0 1+box 3 3 2 1-quarter 3 3 0;");
        // lying it does not fit, standing it does
        fill(x, 1, 1, 2);
        T.due("none fits", x.fill(1, 1), 0);
        T.due("steps", x.steps(), 2);
        T.due("none has its least QUARTER there", x.fill(2, 1), 0);
        T.due("steps", x.steps(), 0);
        // board 0 is laid at each first STEP and is not tried again at the second one
        fill(Harness.house(TWO_CELLS + "outline o=box 0 0 2 1;"), 3, 2, 4);
    }

    // Terms III: "looking is FULL if there would be more than 60000 STEPS."
    private static void lastStep() {
        QuarterBoards x = Harness.house("board ba=quarter 0 0 1;board bb=half 0 0 0+quarter 1 0 3;"
            + "board bc=cell 0 0-quarter 0 0 0;board bd=cell 0 0+half 1 0 2;board be=cell 0 0+half 1 0 2;"
            + "board bf=cell 0 0-quarter 0 0 2;board bg=quarter 0 0 0+quarter 0 0 2;"
            + "board bh=half 0 0 0+quarter 1 0 3;outline o=box 2 2 2 3+cell 2 5-quarter 2 5 1;");
        fill(x, 255, 928, 60000);
        T.due("the first one is remembered", x.filled(0, 0) >= 0, true);
        QuarterBoards y = Harness.house(oneStepMore());
        fill(y, 255, -2, 60000);
        T.due("nothing is remembered", y.filled(0, 0), -100);
        QuarterBoards z = Harness.house(justFullWithout());
        fill(z, 255, 0, 60000);
    }

    /** 60001 STEPS, with FILLINGS. */
    private static String oneStepMore() {
        return "board ba=half 0 0 0;board bb=quarter 0 0 0;board bc=half 0 0 0+quarter 1 0 3;board bd=box 0 0 2 1;"
            + "board be=cell 0 0;board bf=half 0 0 0;board bg=half 0 0 0;board bh=quarter 0 0 1;"
            + "outline o=box 1 1 2 2+box 1 3 2 1-quarter 2 3 1;";
    }

    /** 60000 STEPS, without a FILLING. */
    private static String justFullWithout() {
        return "board ba=box 0 0 2 1;board bb=box 0 0 2 1;board bc=cell 0 0+cell 2 0;board bd=cell 0 0-quarter 0 0 0;"
            + "board be=half 0 0 0;board bf=cell 0 0-quarter 0 0 0;board bg=cell 0 0+quarter 1 0 3;"
            + "board bh=cell 0 0+half 1 0 2;outline o=box 1 0 3 3+box 1 3 1 1+cell 2 3-quarter 2 3 0;";
    }

    // Terms III: "(A LAY that would go OFF is none, and no STEP;"
    private static void offIsNoStep() {
        for (int from = 0; from < 8; from++) {
            // three CELLS that stand: lying they would go OFF from 6 on
            fill(Harness.house("board a=box 0 0 3 1;outline o=box " + from + " 0 1 3;"), 1, 1, from <= 5 ? 2 : 1);
            fill(Harness.house("board a=box 0 0 3 1;outline o=box 0 " + from + " 3 1;"), 1, 1, from <= 5 ? 2 : 1);
            // two CELLS askew: one IMAGE has its least QUARTER in its second column, and would go OFF to the left
            if (from < 7) {
                fill(Harness.house("board a=cell 0 0+cell 1 1;outline o=cell " + from + " 0+cell " + (from + 1) + " 1;"),
                    1, 1, from == 0 ? 1 : 2);
            }
        }
    }

    // Terms III: "if the areas of the SET's boards together are not the outline's, there is no FILLING, and no
    // STEP.)"
    private static void otherAreas() {
        QuarterBoards x = Harness.house("board a=cell 0 0;board b=quarter 0 0 0;outline o=cell 0 0;"
            + "outline p=cell 0 0+quarter 1 0 3;");
        fill(x, 1, 1, 1);
        fill(x, 2, 0, 0);
        T.due("nothing is remembered", x.filled(1, 0), -100);
        fill(x, 1, 1, 1);
        // one QUARTER too many
        fill(x, 3, 0, 0);
        T.due("nothing is remembered", x.filled(0, 0), -100);
        // one too few
        T.due("fill", x.fill(1, 1), 0);
        T.due("steps", x.steps(), 0);
        T.due("just as many", x.fill(1, 3), 1);
    }

    // Promise 15: "How many FILLINGS of an outline by a SET there are; the first one is remembered"
    private static void manyFillings() {
        QuarterBoards x = Harness.house("board a=half 0 0 0;board b=half 0 0 0;board c=half 0 0 0;board d=half 0 0 0;"
            + "outline o=box 0 0 2 1;outline p=half 0 0 0;");
        // two ways for each CELL, with the halves in any order
        T.due("fill", x.fill(0, 15), 96);
        T.due("the first one", x.filled(0, 0), 0);
        T.due("another outline's", x.fill(1, 8), 1);
        T.due("the latest is remembered", x.filled(3, 0), 0);
        T.due("and no other", x.filled(0, 0), -100);
    }

    // Promise 15: "(nothing is, if there is none)."
    private static void noFilling() {
        QuarterBoards x = Harness.house("board a=box 0 0 2 1;outline o=box 0 0 2 1;outline p=cell 0 0+cell 2 0;");
        x.fill(0, 1);
        T.due("remembered", x.filled(0, 0), 0);
        T.due("none", x.fill(1, 1), 0);
        T.due("nothing is remembered", x.filled(0, 0), -100);
    }

    private static String eightCells() {
        return Harness.eightAndSix().replace("outline oa=ba;", "outline oa=box 0 0 8 1;");
    }

    // Promise 15: "-2, and nothing is remembered: FULL;"
    private static void fullFilling() {
        QuarterBoards x = Harness.house(eightCells());
        x.fill(1, 128);
        T.due("remembered", x.filled(7, 0), 0);
        // 8! FILLINGS are there, and the first one is seen at the eighth STEP
        T.due("FULL", x.fill(0, 255), -2);
        for (int board = 0; board < 8; board++) {
            T.due("nothing is remembered", x.filled(board, 0), -100);
        }
    }

    // Promise 15: "NONE, likewise: no such ones (SET 0)."
    private static void noSuchFilling() {
        QuarterBoards x = Harness.house(TWO_CELLS + "outline o=cell 0 0;outline p=cell 0 0;");
        for (int outline : new int[] {2, 6, -1, Integer.MIN_VALUE, Integer.MAX_VALUE}) {
            x.fill(0, 1);
            T.due("fill(" + outline + ", 1)", x.fill(outline, 1), -1);
            T.due("nothing is remembered", x.filled(0, 0), -100);
        }
        for (int set : new int[] {0, 4, 5, 256, -1, -4, Integer.MIN_VALUE, Integer.MAX_VALUE}) {
            x.fill(1, 2);
            T.due("fill(1, " + set + ")", x.fill(1, set), -1);
            T.due("nothing is remembered", x.filled(1, 0), -100);
        }
        T.due("without boards", Harness.house("outline o=cell 0 0;").fill(0, 1), -1);
        T.due("of a new object", new QuarterBoards().fill(0, 1), -1);
        T.due("the last outline and SET", x.fill(1, 3), 0);
    }

    // Promise 16: "Of a board in the FILLING that is remembered: what 0 its g, 1 a, 2 b of its LAY."
    private static void filled() {
        QuarterBoards x = Harness.house("board a=quarter 0 0 1;outline o=quarter 7 6 0;");
        x.fill(0, 1);
        T.due("what 0", x.filled(0, 0), 3);
        T.due("what 1", x.filled(0, 1), 7);
        T.due("what 2", x.filled(0, 2), 6);
        // a is less than the outline's x where the board's least QUARTER is not in its first column
        QuarterBoards y = Harness.house("board a=cell 1 0+cell 0 1;outline o=cell 7 0+cell 6 1;");
        y.fill(0, 1);
        T.due("a", y.filled(0, 1), 6);
        T.due("b", y.filled(0, 2), 0);
    }

    // Promise 16: "-100: it is not in it, none is remembered, no such one."
    private static void notFilled() {
        QuarterBoards x = Harness.house(TWO_CELLS + "outline o=cell 0 0;");
        T.due("none is remembered", x.filled(0, 0), -100);
        x.fill(0, 2);
        T.due("it is in it", x.filled(1, 2), 0);
        T.due("it is not in it", x.filled(0, 0), -100);
        for (int board : new int[] {2, 7, 8, 32, 33, -1, -31, Integer.MIN_VALUE, Integer.MAX_VALUE}) {
            T.due("board " + board, x.filled(board, 0), -100);
        }
        for (int what : new int[] {-1, 3, Integer.MIN_VALUE, Integer.MAX_VALUE}) {
            T.due("what " + what, x.filled(1, what), -100);
        }
        T.due("of a new object", new QuarterBoards().filled(0, 0), -100);
    }

    // Promise 17: "STEPS of the latest fill() that was no NONE (60000 if it was FULL); 0 ahead of any."
    private static void steps() {
        QuarterBoards x = Harness.house(eightCells());
        T.due("ahead of any", x.steps(), 0);
        x.fill(0, 0);
        x.fill(6, 1);
        T.due("behind a NONE alone", x.steps(), 0);
        x.sets(0);
        T.due("looking for SETS is no fill()", x.steps(), 0);
        x.fill(1, 1);
        T.due("the latest", x.steps(), 1);
        x.fill(0, 256);
        T.due("behind a NONE", x.steps(), 1);
        x.sets(0);
        x.needed(0);
        x.set(0, 0);
        T.due("behind sets()", x.steps(), 1);
        x.fill(0, 255);
        T.due("FULL", x.steps(), 60000);
        x.fill(0, 127);
        T.due("other areas", x.steps(), 0);
        x.fill(0, 255);
        Harness.read(x, "?");
        T.due("behind a FAULT", x.steps(), 60000);
        T.due("of a new object", new QuarterBoards().steps(), 0);
    }

    // Terms III: "A SET FILLS an outline if there is a FILLING."
    private static void fills() {
        // by the areas both would; only one does
        QuarterBoards x = Harness.house("board a=box 0 0 2 1;board b=cell 0 0+cell 1 1;outline o=box 5 5 1 2;");
        T.due("sets", x.sets(0), 1);
        T.due("set", x.set(0, 0), 1);
        // more than one FILLING is one SET still
        QuarterBoards y = Harness.house(TWO_CELLS + "outline o=box 0 0 2 1;");
        T.due("fill", y.fill(0, 3), 2);
        T.due("sets", y.sets(0), 1);
    }

    // Promise 18: "How many SETS FILL an outline;"
    private static void sets() {
        QuarterBoards x = Harness.house(Harness.eightAndSix().replace("outline oa=ba;", "outline oa=box 0 0 4 1;")
            .replace("outline ob=ba;", "outline ob=box 0 0 8 1;").replace("outline oc=ba;", "outline oc=quarter 0 0 0;")
            .replace("outline od=ba;", "outline od=box 0 0 3 3;"));
        T.due("as many as can be", x.sets(0), 70);
        T.due("all boards", x.sets(1), 1);
        T.due("none is so small", x.sets(2), 0);
        T.due("all are too small", x.sets(3), 0);
        T.due("one board each", x.sets(4), 8);
        T.due("without boards", Harness.house("outline o=cell 0 0;").sets(0), 0);
    }

    // Promise 18: "-2: looking for the first FILLING of one of them is FULL;"
    private static void fullSets() {
        QuarterBoards x = Harness.house(eightCells());
        T.due("all FILLINGS", x.fill(0, 255), -2);
        T.due("the first of them is soon found", x.sets(0), 1);
        QuarterBoards y = Harness.house(justFullWithout());
        T.due("none is found at the last STEP", y.sets(0), 0);
        T.due("needed", y.needed(0), -1);
        firstAtTheLastStep();
        QuarterBoards z = Harness.house(fullBesideOneThatFills());
        T.due("board 0 alone", z.fill(0, 1), 1);
        T.due("the others", z.fill(0, 254), -2);
        T.due("one of them is FULL", z.sets(0), -2);
        T.due("another outline", z.sets(1), 6);
    }

    private static void firstAtTheLastStep() {
        QuarterBoards x = Harness.house(lateFirst("", "turn turn turn "));
        T.due("the first FILLING at the STEP 60000", x.sets(0), 1);
        T.due("set", x.set(0, 0), 255);
        T.due("needed", x.needed(0), 255);
        QuarterBoards y = Harness.house(lateFirst("flip ", "turn turn "));
        T.due("the first FILLING at the STEP 60001", y.sets(0), -2);
        T.due("set", y.set(0, 0), -2);
        T.due("needed", y.needed(0), -2);
    }

    /** The words ahead of boards 4 and 7 change by one STEP when the first FILLING is found. */
    private static String lateFirst(String fifth, String eighth) {
        return "board ba=box 0 0 2 1+cell 0 1;board bb=quarter 0 0 0;board bc=cell 0 0+quarter 1 0 3;"
            + "board bd=cell 0 0+quarter 1 0 3;board be=" + fifth + "(cell 0 0+quarter 1 0 3);"
            + "board bf=box 0 0 2 1+cell 0 1;board bg=cell 0 0;board bh=" + eighth + "(half 0 0 0+quarter 1 0 3);"
            + "outline o=box 1 0 5 2+box 1 2 1 1+cell 2 2-quarter 2 2 1;";
    }

    /** Board 0 is the outline itself; with all others, one of which never fits, looking is FULL. */
    private static String fullBesideOneThatFills() {
        return "board w=box 2 3 5 1;board ba=half 0 0 0;board bb=ba;board bc=ba;board bd=ba;board be=ba;board bf=ba;"
            + "board z=cell 0 0+half 1 1 0+half 0 2 1;outline o=w;outline p=ba;";
    }

    // Promise 18: "How many SETS FILL an outline; -2: looking for the first FILLING of one of them is FULL; NONE:
    // there is none such."
    private static void noSuchSets() {
        QuarterBoards x = Harness.house(Harness.eightAndSix());
        T.due("the last outline", x.sets(5), 8);
        T.due("one behind", x.sets(6), -1);
        QuarterBoards y = Harness.house("board a=cell 0 0;outline o=cell 0 0;");
        T.due("one behind", y.sets(1), -1);
        for (int beyond : BEYOND) {
            T.due("sets(" + beyond + ")", y.sets(beyond), -1);
        }
        T.due("of a new object", new QuarterBoards().sets(0), -1);
    }

    // Promise 19: "The i-th SET (by its number) that FILLS an outline;"
    private static void setByNumber() {
        QuarterBoards x = Harness.house(Harness.eightAndSix().replace("outline oa=ba;", "outline oa=box 0 0 4 1;"));
        int i = 0;
        for (int set = 1; set < 256; set++) {
            if (Integer.bitCount(set) == 4) {
                T.due("set(0, " + i + ")", x.set(0, i), set);
                i++;
            }
        }
        T.due("not so many", x.set(0, i), -1);
    }

    // Promise 19: "-2: as sets();"
    private static void setIsFull() {
        QuarterBoards x = Harness.house(fullBesideOneThatFills());
        T.due("set(0, 0)", x.set(0, 0), -2);
        T.due("set(0, 1)", x.set(0, 1), -2);
        T.due("set(0, 300)", x.set(0, 300), -2);
        T.due("no such outline", x.set(2, 0), -1);
        // no such one, which is seen ahead of any looking
        T.due("set(0, -1)", x.set(0, -1), -1);
        T.due("another outline", x.set(1, 5), 64);
        QuarterBoards y = Harness.house(justFullWithout());
        T.due("just not FULL", y.set(0, 0), -1);
    }

    // Promise 19: "NONE: not so many, no such ones."
    private static void setsThatAreNot() {
        QuarterBoards x = Harness.house(TWO_CELLS + "outline o=cell 0 0;outline p=quarter 0 0 0;");
        T.due("the last one", x.set(0, 1), 2);
        T.due("one behind", x.set(0, 2), -1);
        T.due("none at all", x.set(1, 0), -1);
        T.due("no such outline", x.set(2, 0), -1);
        for (int beyond : BEYOND) {
            T.due("set(0, " + beyond + ")", x.set(0, beyond), -1);
            T.due("set(" + beyond + ", 0)", x.set(beyond, 0), -1);
        }
        T.due("of a new object", new QuarterBoards().set(0, 0), -1);
    }

    // Terms III: "NEEDED: boards that are in all SETS that FILL it."
    // Promise 20: "NEEDED boards of an outline (bits);"
    private static void needed() {
        QuarterBoards x = Harness.house("board a=box 0 0 3 1;board b=cell 0 0;board c=cell 0 0;board d=quarter 0 0 0;"
            + "outline o=box 0 0 4 1;outline p=cell 0 0;outline q=box 0 0 5 1;outline r=cell 0 0+quarter 3 3 3;");
        T.due("one of two SETS", x.needed(0), 1);
        T.due("none of two SETS", x.needed(1), 0);
        T.due("all of one SET", x.needed(2), 7);
        T.due("another one", x.needed(3), 8);
        QuarterBoards y = Harness.house(eightCells());
        T.due("all eight", y.needed(0), 255);
    }

    // Promise 20: "-2: as sets(); NONE: no SET FILLS it, there is none such."
    private static void neededIsFull() {
        QuarterBoards x = Harness.house(fullBesideOneThatFills());
        T.due("FULL", x.needed(0), -2);
        T.due("another outline", x.needed(1), 0);
        T.due("no such outline", x.needed(2), -1);
    }

    // Promise 20: "NONE: no SET FILLS it, there is none such."
    private static void nothingNeeded() {
        QuarterBoards x = Harness.house("board a=cell 0 0;outline o=cell 0 0;outline p=quarter 0 0 0;");
        T.due("one SET FILLS it", x.needed(0), 1);
        T.due("no SET FILLS it", x.needed(1), -1);
        T.due("one behind", x.needed(2), -1);
        for (int beyond : BEYOND) {
            T.due("needed(" + beyond + ")", x.needed(beyond), -1);
        }
        T.due("of a new object", new QuarterBoards().needed(0), -1);
        T.due("without boards", Harness.house("outline o=cell 0 0;").needed(0), -1);
    }
}
