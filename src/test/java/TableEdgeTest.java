/** The edges of THE TABLE (part IV of the document's terms) and of promises 14 and 24 to 27. */
public final class TableEdgeTest {
    private static final Harness T = new Harness("TableEdgeTest");
    private static final int[] BEYOND = {-1, Integer.MIN_VALUE, Integer.MAX_VALUE};

    public static void main(String[] args) {
        eightLays();
        notOnItYet();
        layIsTold();
        laysOnTheGrid();
        noSuchLay();
        lift();
        noLift();
        covers();
        coveredByNone();
        noSuchQuarter();
        clashes();
        shows();
        showsNone();
        T.finish();
    }

    // Terms IV: "THE TABLE holds LAYS, 8 at most, each of a board that is not on it."
    private static void eightLays() {
        QuarterBoards x = Harness.house(Harness.eightAndSix());
        for (int board = 7; board >= 0; board--) {
            T.due("lay of board " + board, x.lay(board, 0, 0, 0), 8 - board);
        }
        T.due("of a ninth board", x.lay(8, 0, 1, 1), -1);
        T.due("of one of the eight", x.lay(7, 0, 1, 1), -1);
        T.due("eight lie there", x.count(2), 8);
        T.due("clashes", x.clashes(), 4);
    }

    // Terms IV: "each of a board that is not on it."
    private static void notOnItYet() {
        QuarterBoards x = Harness.house("board a=cell 0 0;board b=cell 0 0;");
        T.due("lay", x.lay(0, 0, 3, 3), 1);
        T.due("the same LAY", x.lay(0, 0, 3, 3), -1);
        T.due("another LAY", x.lay(0, 1, 0, 0), -1);
        T.due("it lies as it lay", x.covers(4 * 27), 0);
        T.due("and nowhere else", x.covers(0), -2);
        x.lift(0);
        T.due("once it is gone", x.lay(0, 1, 0, 0), 1);
        T.due("there it lies", x.covers(0), 0);
    }

    // Promise 24: "A LAY comes on THE TABLE: how many lie there."
    private static void layIsTold() {
        QuarterBoards x = Harness.house("board a=quarter 5 5 0;board b=quarter 0 0 0;");
        for (int g = 0; g < 8; g++) {
            T.due("lay by g " + g, x.lay(0, g, 0, 0), 1);
            int d = new int[] {0, 1, 2, 3, 0, 1, 2, 3}[g];
            T.due("IMAGE " + g, x.covers(d), 0);
            x.lift(0);
        }
        x.lay(0, 0, 7, 0);
        T.due("the second one", x.lay(1, 2, 0, 7), 2);
        T.due("a goes to the right", x.covers(28), 0);
        T.due("b goes down", x.covers(4 * 56 + 2), 1);
    }

    // Terms III: "A LAY of a board: IMAGE g of it, SHIFTED by a, b (so that it does not go OFF)."
    private static void laysOnTheGrid() {
        for (int a = -1; a <= 8; a++) {
            for (int b = -1; b <= 8; b++) {
                // three CELLS by two, and turned two by three; where they were told is nothing to their BASE
                QuarterBoards x = Harness.house("board a=box 5 6 3 2;");
                T.due("lay by " + a + ", " + b, x.lay(0, 0, a, b), a >= 0 && a <= 5 && b >= 0 && b <= 6 ? 1 : -1);
                x.lift(0);
                T.due("turned, by " + a + ", " + b, x.lay(0, 5, a, b), a >= 0 && a <= 6 && b >= 0 && b <= 5 ? 1 : -1);
            }
        }
        for (int d = 0; d < 4; d++) {
            QuarterBoards x = Harness.house("board a=quarter 3 3 " + d + ";");
            T.due("QUARTER " + d + " beyond the right rim", x.lay(0, 0, 8, 7), -1);
            T.due("QUARTER " + d + " beyond the lower rim", x.lay(0, 0, 7, 8), -1);
            T.due("QUARTER " + d + " in the last CELL", x.lay(0, 0, 7, 7), 1);
        }
        QuarterBoards y = Harness.house("board a=box 0 0 8 8;");
        T.due("the whole GRID", y.lay(0, 7, 0, 0), 1);
    }

    // Promise 24: "NONE, and nothing happens: no such board, g, it lies there already, it goes OFF."
    private static void noSuchLay() {
        QuarterBoards x = Harness.house("board a=cell 0 0;board b=half 0 0 0;outline o=cell 1 1;");
        x.lay(0, 0, 1, 1);
        x.fill(0, 1);
        x.claim(0, 0, 1);
        String before = Harness.state(x);
        for (int board : new int[] {2, 7, 8, -1, Integer.MIN_VALUE, Integer.MAX_VALUE}) {
            T.due("board " + board, x.lay(board, 0, 0, 0), -1);
        }
        for (int g : new int[] {8, -1, Integer.MIN_VALUE, Integer.MAX_VALUE}) {
            T.due("g " + g, x.lay(1, g, 0, 0), -1);
        }
        T.due("it lies there already", x.lay(0, 0, 0, 0), -1);
        for (int beyond : new int[] {8, 1 << 28, 1 << 29, 1 << 30, -1, Integer.MIN_VALUE, Integer.MAX_VALUE}) {
            T.due("a " + beyond, x.lay(1, 0, beyond, 0), -1);
            T.due("b " + beyond, x.lay(1, 0, 0, beyond), -1);
        }
        T.unchanged("refused LAYS", x, before);
        T.due("the last board and g at the last CELL", x.lay(1, 7, 7, 7), 2);
        T.due("of a new object", new QuarterBoards().lay(0, 0, 0, 0), -1);
    }

    // Promise 25: "A board goes from THE TABLE: true;"
    private static void lift() {
        QuarterBoards x = Harness.house(Harness.eightAndSix());
        for (int board = 0; board < 8; board++) {
            x.lay(board, 0, board, 0);
        }
        for (int board = 0; board < 8; board++) {
            T.due("lift of board " + board, x.lift(board), true);
            T.due("it is gone", x.covers(4 * board), -2);
            T.due("how many lie there", x.count(2), 7 - board);
            T.due("the last one still lies there", x.covers(28), board < 7 ? 7 : -2);
        }
    }

    // Promise 25: "false: it does not lie there."
    private static void noLift() {
        QuarterBoards x = Harness.house("board a=cell 0 0;board b=cell 0 0;");
        x.lay(1, 0, 0, 0);
        for (int board : new int[] {0, 2, 7, 8, -1, Integer.MIN_VALUE, Integer.MAX_VALUE}) {
            T.due("lift of board " + board, x.lift(board), false);
        }
        T.due("the other one lies there still", x.count(2), 1);
        T.due("lift", x.lift(1), true);
        T.due("lift again", x.lift(1), false);
        T.due("of a new object", new QuarterBoards().lift(0), false);
    }

    // Promise 26: "The board that covers a QUARTER on THE TABLE (the least one);"
    private static void covers() {
        QuarterBoards x = Harness.house(Harness.eightAndSix());
        x.lay(7, 0, 7, 7);
        T.due("the last QUARTER by the last board", x.covers(255), 7);
        x.lay(3, 0, 7, 7);
        T.due("by a lesser one as well", x.covers(255), 3);
        x.lay(5, 0, 7, 7);
        T.due("the least, not the latest", x.covers(255), 3);
        x.lay(0, 0, 7, 7);
        T.due("the least of all", x.covers(252), 0);
        x.lift(0);
        x.lift(3);
        T.due("the least that is left", x.covers(252), 5);
    }

    // Promise 26: "-2: none;"
    private static void coveredByNone() {
        QuarterBoards x = Harness.house("board a=quarter 0 0 0;");
        T.due("an empty TABLE", x.covers(0), -2);
        x.lay(0, 0, 0, 0);
        T.due("covered", x.covers(0), 0);
        T.due("of the same CELL", x.covers(1), -2);
        T.due("the last QUARTER", x.covers(255), -2);
        x.lift(0);
        T.due("an empty TABLE again", x.covers(0), -2);
    }

    // Promise 26: "NONE: no such QUARTER."
    private static void noSuchQuarter() {
        QuarterBoards x = Harness.house("board a=box 0 0 8 8;");
        x.lay(0, 0, 0, 0);
        T.due("QUARTER 255", x.covers(255), 0);
        T.due("QUARTER 256", x.covers(256), -1);
        for (int beyond : BEYOND) {
            T.due("QUARTER " + beyond, x.covers(beyond), -1);
        }
        T.due("of a new object", new QuarterBoards().covers(256), -1);
    }

    // Promise 27: "How many QUARTERS are covered by two boards or more on THE TABLE."
    private static void clashes() {
        QuarterBoards x = Harness.house(Harness.eightAndSix().replace("board bg=ba;", "board bg=box 0 0 8 8;")
            .replace("board bh=ba;", "board bh=box 0 0 8 8;"));
        T.due("none lies there", x.clashes(), 0);
        x.lay(6, 0, 0, 0);
        T.due("one board", x.clashes(), 0);
        x.lay(0, 0, 7, 7);
        T.due("two boards", x.clashes(), 4);
        x.lay(1, 0, 7, 7);
        T.due("three boards on the same are counted once", x.clashes(), 4);
        x.lay(2, 0, 0, 0);
        T.due("elsewhere", x.clashes(), 8);
        x.lay(7, 0, 0, 0);
        T.due("all QUARTERS", x.clashes(), 256);
        x.lift(6);
        T.due("one of the great ones is gone", x.clashes(), 8);
        x.lift(7);
        T.due("both are gone", x.clashes(), 4);
        x.lift(0);
        T.due("side by side", x.clashes(), 0);
    }

    // Promise 14: "The outline with the least number that is ALIKE to what lies on THE TABLE (its QUARTERS
    // together);"
    private static void shows() {
        QuarterBoards x = Harness.house("board a=half 0 0 0;board b=half 0 0 2;board c=cell 0 0;outline o=quarter 0 0 0;"
            + "outline p=cell 7 7;outline q=cell 0 0;outline r=half 3 3 1;outline s=box 0 0 1 2;outline t=cell 0 0+cell 7 7;");
        x.lay(0, 0, 7, 7);
        T.due("a half", x.shows(), 3);
        x.lay(1, 0, 7, 7);
        T.due("two halves are a CELL, of two outlines the lesser", x.shows(), 1);
        x.lay(2, 0, 7, 7);
        T.due("covered twice is covered", x.shows(), 1);
        x.lift(2);
        x.lay(2, 0, 6, 7);
        T.due("two CELLS, turned", x.shows(), 4);
        x.lift(2);
        x.lay(2, 0, 0, 0);
        T.due("the last outline", x.shows(), 5);
        // mirrored
        QuarterBoards y = Harness.house("board a=box 0 0 3 1+half 0 1 0;outline o=shift -4 3 flip a;");
        y.lay(0, 2, 0, 0);
        T.due("mirrored and turned", y.shows(), 0);
    }

    // Promise 14: "-2: none (also if none is covered)."
    private static void showsNone() {
        QuarterBoards x = Harness.house("board a=cell 0 0;board b=cell 0 0;outline o=cell 0 0;");
        T.due("none is covered", x.shows(), -2);
        x.lay(0, 0, 0, 0);
        T.due("one", x.shows(), 0);
        x.lay(1, 0, 1, 1);
        T.due("more than the outline", x.shows(), -2);
        x.lift(1);
        x.lift(0);
        T.due("none is covered any more", x.shows(), -2);
        QuarterBoards y = Harness.house("board a=cell 0 0;");
        y.lay(0, 0, 0, 0);
        T.due("without outlines", y.shows(), -2);
        T.due("of a new object", new QuarterBoards().shows(), -2);
    }
}
