/** Promises 15 to 20: fill, filled, steps, sets, set, needed. */
public final class FillTest {
    private static final Harness T = new Harness("FillTest");

    public static void main(String[] args) {
        wrongInputs();
        dominoes();
        orderOfFillings();
        stepsCount();
        memory();
        sets();
        full();
        T.finish();
    }

    private static void wrongInputs() {
        QuarterBoards x = Harness.house("board a=cell 0 0;board b=cell 0 0;outline c=cell 1 1;");
        for (int bad : new int[] {-1, 1, 6, Integer.MAX_VALUE, Integer.MIN_VALUE}) {
            T.due("fill of outline " + bad, x.fill(bad, 1), -1);
            T.due("sets of outline " + bad, x.sets(bad), -1);
            T.due("set of outline " + bad, x.set(bad, 0), -1);
            T.due("needed of outline " + bad, x.needed(bad), -1);
        }
        for (int bad : new int[] {0, -1, 4, 255, 256, Integer.MAX_VALUE, Integer.MIN_VALUE}) {
            T.due("fill by set " + bad, x.fill(0, bad), -1);
        }
        T.due("fill by set 3", x.fill(0, 3), 0);
        T.due("set(0, -1)", x.set(0, -1), -1);
        T.due("set(0, 2)", x.set(0, 2), -1);
        T.due("set(0, max)", x.set(0, Integer.MAX_VALUE), -1);
        x.fill(0, 2);
        for (int bad : new int[] {-1, 0, 2, 8, 32, Integer.MAX_VALUE, Integer.MIN_VALUE}) {
            T.due("filled of board " + bad, x.filled(bad, 0), -100);
        }
        for (int bad : new int[] {-1, 3, Integer.MAX_VALUE, Integer.MIN_VALUE}) {
            T.due("filled, what " + bad, x.filled(1, bad), -100);
        }
        T.due("filled(1, 2)", x.filled(1, 2), 1);
    }

    private static void dominoes() {
        // two boards of two CELLS in a square: both lie, or both stand; each way with either first
        QuarterBoards x = Harness.house("board a=box 0 0 2 1;board b=box 3 3 1 2;outline c=box 5 4 2 2;");
        T.due("fill", x.fill(0, 3), 4);
        T.due("filled(0, 0)", x.filled(0, 0), 0);
        T.due("filled(0, 1)", x.filled(0, 1), 5);
        T.due("filled(0, 2)", x.filled(0, 2), 4);
        T.due("filled(1, 0)", x.filled(1, 0), 1);
        T.due("filled(1, 1)", x.filled(1, 1), 5);
        T.due("filled(1, 2)", x.filled(1, 2), 5);
        // 4 at the first CELL; behind each the other board lies and stands
        T.due("steps", x.steps(), 12);
        QuarterBoards y = Harness.house("board a=box 0 0 2 1;board b=box 3 3 1 2;outline c=box 6 6 2 2;");
        T.due("fill at the rim", y.fill(0, 3), 4);
        // what would go OFF is no STEP
        T.due("steps at the rim", y.steps(), 8);
    }

    private static void orderOfFillings() {
        // board 1 must come at the least QUARTER: board 0 does not fit there
        QuarterBoards x = Harness.house(
            "board a=box 0 0 2 2;board b=cell 0 0;board c=cell 0 0;outline o=box 0 0 2 3-box 0 0 2 1+box 0 0 1 1+cell 2 1;");
        T.due("fill", x.fill(0, 7), 2);
        T.due("b comes first", x.filled(1, 2), 0);
        T.due("c comes later", x.filled(2, 1), 2);
        T.due("a", x.filled(0, 2), 1);
        // two PIECES, and a board of two PIECES
        QuarterBoards y = Harness.house(
            "board a=quarter 0 0 0+quarter 0 0 2;board b=quarter 0 0 1+quarter 0 0 3;outline o=cell 2 2;");
        T.due("fill", y.fill(0, 3), 2);
        T.due("filled(0, 0)", y.filled(0, 0), 0);
        T.due("filled(1, 0)", y.filled(1, 0), 0);
        T.due("steps", y.steps(), 4);
        T.due("images", y.images(false, 0), 2);
    }

    private static void stepsCount() {
        QuarterBoards x = Harness.house("board a=box 0 0 2 1;board b=cell 0 0;outline o=box 0 0 1 3;outline p=cell 0 0;"
            + "outline q=cell 7 7+cell 6 7+cell 5 6;outline r=quarter 0 0 1+box 3 3 3 1-quarter 3 3 1;");
        T.due("fill", x.fill(0, 3), 2);
        // a lies (no), stands (yes: then b), b (yes: then a lies, stands)
        T.due("steps", x.steps(), 6);
        T.due("areas that differ", x.fill(1, 1), 0);
        T.due("steps", x.steps(), 0);
        x.fill(0, 3);
        T.due("no such outline", x.fill(4, 3), -1);
        T.due("steps stay", x.steps(), 6);
        x.sets(0);
        T.due("sets() leaves steps", x.steps(), 6);
        T.due("fill", x.fill(2, 3), 1);
        // a lies, stands (neither fits), b; then a lies, and standing it would go OFF
        T.due("steps", x.steps(), 4);
        T.due("a QUARTER that no LAY begins at", x.fill(3, 3), 0);
        T.due("steps", x.steps(), 0);
    }

    private static void memory() {
        QuarterBoards x = Harness.house("board a=cell 0 0;board b=half 0 0 0;outline c=cell 1 2;outline d=half 0 0 3;");
        T.due("nothing yet", x.filled(0, 0), -100);
        x.fill(0, 1);
        T.due("filled", x.filled(0, 2), 2);
        T.due("not in it", x.filled(1, 0), -100);
        x.sets(1);
        x.needed(1);
        x.cut(0, 1);
        T.due("sets() and cut() leave it", x.filled(0, 2), 2);
        QuarterBoards y = Harness.house("board a=half 0 0 0;outline c=half 3 4 0;outline d=half 1 1 3;");
        y.fill(0, 1);
        T.due("another outline's SETS", y.sets(1), 1);
        T.due("sets() leaves g", y.filled(0, 0), 0);
        T.due("sets() leaves a", y.filled(0, 1), 3);
        T.due("sets() leaves b", y.filled(0, 2), 4);
        x.fill(0, 0);
        T.due("a NONE forgets", x.filled(0, 2), -100);
        x.fill(0, 1);
        x.fill(9, 1);
        T.due("a NONE forgets", x.filled(0, 2), -100);
        x.fill(0, 1);
        x.fill(0, 2);
        T.due("without a FILLING nothing is remembered", x.filled(0, 2), -100);
        x.fill(1, 2);
        T.due("filled(1, 0)", x.filled(1, 0), 3);
        x.cut(0, 0);
        x.fill(0, 2);
        T.due("fill() leaves THE CUT", x.laid(0), 0);
    }

    private static void sets() {
        QuarterBoards x = Harness.house("board a=box 0 0 3 1;board b=box 0 0 2 1;board c=cell 0 0;board d=cell 4 4;"
            + "outline o=box 2 2 4 1;outline p=box 2 2 2 2;outline q=box 0 0 7 1;outline r=half 0 0 0;outline s=box 1 1 1 5;");
        // a with c or d; b with c and d
        sets(x, 0, 0, 5, 9, 14);
        sets(x, 1, 14, 14);
        sets(x, 2, 15, 15);
        sets(x, 3, -1);
        // a with b; a with c and d (a b c d would be 7)
        sets(x, 4, 1, 3, 13);
    }

    private static void sets(QuarterBoards x, int outline, int needed, int... want) {
        T.due("sets(" + outline + ")", x.sets(outline), want.length);
        for (int i = 0; i < want.length; i++) {
            T.due("set(" + outline + ", " + i + ")", x.set(outline, i), want[i]);
        }
        T.due("set behind the last one", x.set(outline, want.length), -1);
        T.due("needed(" + outline + ")", x.needed(outline), needed);
        T.due("sets(" + outline + ") again", x.sets(outline), want.length);
    }

    private static void full() {
        // eight CELLS in a row: 8! ways, and far more than 60000 STEPS
        StringBuilder text = new StringBuilder();
        for (int i = 0; i < 8; i++) {
            text.append("board b").append((char) ('a' + i)).append("=cell 0 0;");
        }
        text.append("outline r=box 0 0 8 1;outline s=box 0 0 7 1;outline t=box 0 0 6 1;");
        QuarterBoards x = Harness.house(text.toString());
        x.fill(2, 63);
        T.due("filled", x.filled(0, 0), 0);
        T.due("FULL", x.fill(0, 255), -2);
        T.due("steps of FULL", x.steps(), 60000);
        T.due("nothing is remembered", x.filled(0, 0), -100);
        T.due("7!", x.fill(1, 127), 5040);
        // 7 + 7 * 6 + 7 * 6 * 5 + ..
        T.due("steps", x.steps(), 13699);
        T.due("the first FILLING is soon found", x.sets(0), 1);
        T.due("sets(1)", x.sets(1), 8);
        T.due("needed(1)", x.needed(1), 0);
        T.due("sets(2)", x.sets(2), 28);
        T.due("set(2, 27)", x.set(2, 27), 252);
        fullWithoutFilling();
        atTheLimit();
    }

    private static void atTheLimit() {
        QuarterBoards x = Harness.house("board ba=quarter 0 0 1;board bb=half 0 0 0+quarter 1 0 3;"
            + "board bc=cell 0 0-quarter 0 0 0;board bd=cell 0 0+half 1 0 2;board be=cell 0 0+half 1 0 2;"
            + "board bf=cell 0 0-quarter 0 0 2;board bg=quarter 0 0 0+quarter 0 0 2;"
            + "board bh=half 0 0 0+quarter 1 0 3;outline o=box 2 2 2 3+cell 2 5-quarter 2 5 1;");
        T.due("just 60000 STEPS", x.fill(0, 255), 928);
        T.due("steps", x.steps(), 60000);
        T.due("the first one is remembered", x.filled(7, 0) >= 0, true);
        QuarterBoards y = Harness.house("board ba=half 0 0 0;board bb=quarter 0 0 0;"
            + "board bc=half 0 0 0+quarter 1 0 3;board bd=box 0 0 2 1;board be=cell 0 0;board bf=half 0 0 0;"
            + "board bg=half 0 0 0;board bh=quarter 0 0 1;outline o=box 1 1 2 2+box 1 3 2 1-quarter 2 3 1;");
        T.due("one STEP more", y.fill(0, 255), -2);
        T.due("steps", y.steps(), 60000);
        T.due("nothing is remembered", y.filled(7, 0), -100);
        T.due("its first FILLING is soon found", y.sets(0) > 0, true);
    }

    private static void fullWithoutFilling() {
        // the halves fit in every order and two ways a CELL, but the eighth board, CELLS apart, never does
        StringBuilder text = new StringBuilder();
        for (int i = 0; i < 7; i++) {
            text.append("board b").append((char) ('a' + i)).append("=half 0 0 0;");
        }
        text.append("board z=cell 0 0+cell 2 2;outline r=box 0 0 5 1+half 5 0 2;"
            + "outline s=half 5 5 3;outline t=quarter 1 1 1;");
        QuarterBoards x = Harness.house(text.toString());
        T.due("sets: FULL", x.sets(0), -2);
        T.due("set: FULL", x.set(0, 0), -2);
        T.due("set: FULL", x.set(0, 300), -2);
        T.due("needed: FULL", x.needed(0), -2);
        T.due("steps() is of fill() alone", x.steps(), 0);
        T.due("fill: FULL", x.fill(0, 255), -2);
        T.due("sets(1)", x.sets(1), 7);
        T.due("needed(1)", x.needed(1), 0);
        T.due("needed(2)", x.needed(2), -1);
    }
}
