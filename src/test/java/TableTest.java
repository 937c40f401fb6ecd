/** Promises 14 and 24 to 27: shows, lay, lift, covers, clashes. */
public final class TableTest {
    private static final Harness T = new Harness("TableTest");

    public static void main(String[] args) {
        laying();
        off();
        coversAndClashes();
        shows();
        T.finish();
    }

    private static void laying() {
        QuarterBoards x = Harness.house("board a=cell 5 5;board b=half 3 3 1;");
        for (int bad : new int[] {-1, 2, 8, Integer.MAX_VALUE, Integer.MIN_VALUE}) {
            T.due("lay of board " + bad, x.lay(bad, 0, 0, 0), -1);
            T.due("lay with g " + (bad == 2 ? 9 : bad), x.lay(0, bad == 2 ? 9 : bad, 0, 0), -1);
            T.due("lift of board " + bad, x.lift(bad), false);
        }
        T.due("count(2)", x.count(2), 0);
        T.due("lay", x.lay(1, 7, 2, 1), 1);
        T.due("lay", x.lay(0, 3, 0, 0), 2);
        T.due("it lies there already", x.lay(1, 7, 2, 1), -1);
        T.due("it lies there already", x.lay(1, 0, 5, 5), -1);
        T.due("where it lay", x.covers(4 * (8 + 2) + 1), 1);
        T.due("lift", x.lift(0), true);
        T.due("lift", x.lift(0), false);
        T.due("count(2)", x.count(2), 1);
        T.due("nothing there", x.covers(0), -2);
        T.due("lay again", x.lay(0, 0, 7, 7), 2);
        T.due("covers(255)", x.covers(255), 0);
    }

    private static void off() {
        QuarterBoards x = Harness.house("board a=box 1 1 3 2;board b=box 0 0 8 8;");
        T.due("left", x.lay(0, 0, -1, 0), -1);
        T.due("above", x.lay(0, 0, 0, -1), -1);
        T.due("right", x.lay(0, 0, 6, 0), -1);
        T.due("below", x.lay(0, 0, 0, 7), -1);
        T.due("right, turned", x.lay(0, 1, 7, 0), -1);
        T.due("below, turned", x.lay(0, 1, 0, 6), -1);
        T.due("far", x.lay(0, 0, Integer.MAX_VALUE, 0), -1);
        T.due("far", x.lay(0, 0, 0, Integer.MAX_VALUE), -1);
        T.due("far", x.lay(0, 0, Integer.MIN_VALUE, Integer.MIN_VALUE), -1);
        T.due("far", x.lay(0, 0, 1 << 30, 1 << 29), -1);
        T.due("nothing happened", x.count(2), 0);
        T.due("at the rim", x.lay(0, 0, 5, 6), 1);
        x.lift(0);
        T.due("at the rim, turned", x.lay(0, 1, 6, 5), 1);
        T.due("the whole GRID shifted", x.lay(1, 0, 1, 0), -1);
        T.due("the whole GRID", x.lay(1, 5, 0, 0), 2);
    }

    private static void coversAndClashes() {
        QuarterBoards x = Harness.house("board a=cell 0 0;board b=box 0 0 2 1;board c=half 0 0 0;");
        T.due("covers(-1)", x.covers(-1), -1);
        T.due("covers(256)", x.covers(256), -1);
        x.lay(2, 0, 1, 0);
        x.lay(1, 0, 1, 0);
        T.due("two boards", x.clashes(), 2);
        T.due("the least one", x.covers(4), 1);
        x.lay(0, 0, 1, 0);
        T.due("three boards on two, two on two", x.clashes(), 4);
        T.due("the least one", x.covers(4), 0);
        T.due("beside", x.covers(8), 1);
        x.lift(1);
        T.due("two boards", x.clashes(), 2);
        T.due("beside", x.covers(8), -2);
        x.lift(0);
        T.due("none", x.clashes(), 0);
        T.due("covers(5)", x.covers(5), 2);
        T.due("covers(6)", x.covers(6), -2);
    }

    private static void shows() {
        QuarterBoards x = Harness.house("board a=cell 0 0;board b=cell 0 0;board c=half 0 0 0;"
            + "outline o=box 0 0 2 1;outline p=cell 5 5;outline q=half 1 1 2;outline r=quarter 0 0 0;outline s=cell 1 1;");
        T.due("an empty table", x.shows(), -2);
        x.lay(0, 0, 6, 6);
        T.due("a CELL", x.shows(), 1);
        x.lay(1, 0, 6, 6);
        T.due("twice the same CELL", x.shows(), 1);
        x.lift(1);
        x.lay(1, 0, 6, 7);
        T.due("two CELLS that stand", x.shows(), 0);
        x.lift(1);
        x.lay(1, 0, 0, 0);
        T.due("two CELLS apart", x.shows(), -2);
        x.lift(0);
        x.lift(1);
        x.lay(2, 5, 3, 3);
        T.due("a half", x.shows(), 2);
        x.lift(2);
        T.due("an empty table", x.shows(), -2);
    }
}
