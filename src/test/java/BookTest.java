/** Promises 28 to 32: claim, annul, verdict, first, points. */
public final class BookTest {
    private static final Harness T = new Harness("BookTest");

    public static void main(String[] args) {
        wrongInputs();
        verdicts();
        sameSolutions();
        voids();
        fullBook();
        T.finish();
    }

    private static void wrongInputs() {
        QuarterBoards x = Harness.house("board a=cell 0 0;board b=cell 0 0;outline c=cell 1 1;");
        for (int bad : new int[] {-1, 6, Integer.MAX_VALUE, Integer.MIN_VALUE}) {
            T.due("claim of player " + bad, x.claim(bad, 0, 1), -1);
            T.due("claim of outline " + bad, x.claim(0, bad, 1), -1);
            T.due("points of player " + bad, x.points(bad, 0), -1);
            T.due("annul " + bad, x.annul(bad), -1);
            T.due("verdict " + bad, x.verdict(bad), -1);
            T.due("first " + bad, x.first(bad, 0), -1);
            T.due("points by " + bad, x.points(0, bad), -1);
        }
        for (int bad : new int[] {0, -1, 4, 256, Integer.MAX_VALUE, Integer.MIN_VALUE}) {
            T.due("claim of set " + bad, x.claim(0, 0, bad), -1);
        }
        T.due("nothing happened", x.count(3), 0);
        x.lay(1, 0, 1, 1);
        T.due("claim", x.claim(5, 0, 2), 0);
        T.due("verdict", x.verdict(0), 0);
        T.due("by 0", x.first(0, 0), -1);
        T.due("by 1", x.first(0, 1), 0);
        T.due("by 2, which are not there", x.first(0, 2), -1);
        T.due("by -1", x.first(0, -1), -1);
        T.due("points by 0", x.points(5, 0), 0);
        T.due("points by 1", x.points(5, 1), 1);
        T.due("points by 2, which are not there", x.points(5, 2), -1);
        T.due("points by -1", x.points(5, -1), -1);
        T.due("points of another", x.points(0, 1), 0);
    }

    private static void verdicts() {
        QuarterBoards x = Harness.house("board a=cell 0 0;board b=cell 0 0;board c=half 0 0 0;outline o=box 1 1 2 1;outline p=box 1 1 3 1;");
        x.lay(0, 0, 1, 1);
        verdict(x, 0, 2, 1);
        verdict(x, 0, 6, 1);
        verdict(x, 0, 3, 2);
        verdict(x, 0, 1, 5);
        x.lay(1, 0, 1, 1);
        verdict(x, 0, 1, 1);
        verdict(x, 0, 7, 2);
        verdict(x, 0, 3, 3);
        x.lift(1);
        x.lay(1, 0, 3, 1);
        verdict(x, 0, 3, 4);
        verdict(x, 1, 3, 5);
        x.lift(1);
        x.lay(1, 0, 2, 1);
        verdict(x, 0, 3, 0);
        verdict(x, 1, 3, 5);
        x.lay(2, 0, 2, 2);
        verdict(x, 0, 7, 4);
        x.lift(2);
        x.lay(2, 0, 2, 1);
        verdict(x, 0, 7, 3);
        x.lift(0);
        x.lift(1);
        T.due("a verdict stays as it was judged", x.verdict(9), 0);
    }

    private static void verdict(QuarterBoards x, int outline, int set, int want) {
        int claim = x.claim(1, outline, set);
        T.due("verdict of claim " + claim, x.verdict(claim), want);
    }

    private static void sameSolutions() {
        QuarterBoards x = Harness.house("board a=half 0 0 0;board b=half 0 0 0;outline o=cell 1 1;outline p=cell 1 1;");
        x.lay(0, 0, 1, 1);
        x.lay(1, 2, 1, 1);
        x.claim(0, 0, 3);
        x.claim(0, 0, 3);
        x.claim(1, 1, 3);
        T.due("the same again", x.first(1, 3), 0);
        T.due("another outline", x.first(2, 3), 2);
        T.due("points(0, 3)", x.points(0, 3), 1);
        T.due("points(1, 3)", x.points(1, 3), 1);
        x.lift(0);
        // g 4 and g 3 cover other QUARTERS, g 7 the same as g 2
        x.lay(0, 7, 1, 1);
        x.lift(1);
        x.lay(1, 0, 1, 1);
        x.claim(2, 0, 3);
        T.due("the boards have changed places", x.first(3, 4), 3);
        T.due("points(2, 4)", x.points(2, 4), 1);
        x.lift(0);
        x.lay(0, 2, 1, 1);
        x.claim(3, 0, 3);
        T.due("another g, the same QUARTERS", x.first(4, 5), 3);
        T.due("points(3, 5)", x.points(3, 5), 0);
        x.lift(0);
        x.claim(4, 0, 3);
        T.due("not right", x.first(5, 6), -1);
        T.due("points(4, 6)", x.points(4, 6), 0);
    }

    private static void voids() {
        QuarterBoards x = Harness.house("board a=cell 0 0;outline o=cell 1 1;");
        x.lay(0, 0, 1, 1);
        x.claim(0, 0, 1);
        x.claim(1, 0, 1);
        x.claim(0, 0, 1);
        T.due("annul", x.annul(0), 3);
        T.due("a VOID is no CLAIM", x.annul(3), -1);
        T.due("a VOID has no verdict", x.verdict(3), -1);
        T.due("a VOID is no first", x.first(3, 4), -1);
        T.due("the verdict stays", x.verdict(0), 0);
        T.due("first(1, 4)", x.first(1, 4), 1);
        T.due("first(2, 4)", x.first(2, 4), 1);
        T.due("first(2, 3)", x.first(2, 3), 0);
        T.due("first(0, 4)", x.first(0, 4), -1);
        T.due("points(0, 3)", x.points(0, 3), 1);
        T.due("points(0, 4)", x.points(0, 4), 0);
        T.due("points(1, 4)", x.points(1, 4), 1);
        T.due("annul it once more", x.annul(0), 4);
        T.due("annul", x.annul(1), 5);
        T.due("points(0, 6)", x.points(0, 6), 1);
        T.due("points(1, 6)", x.points(1, 6), 0);
        T.due("points(1, 5)", x.points(1, 5), 1);
        T.due("first(2, 6)", x.first(2, 6), 2);
        T.due("claim", x.claim(1, 0, 1), 6);
        T.due("first(6, 7)", x.first(6, 7), 2);
    }

    private static void fullBook() {
        QuarterBoards x = Harness.house("board a=cell 0 0;outline o=cell 1 1;");
        x.lay(0, 0, 1, 1);
        for (int i = 0; i < 59; i++) {
            T.due("entry " + i, i % 3 == 2 ? x.annul(i - 1) : x.claim(i % 6, 0, 1), i);
        }
        T.due("the 60th", x.claim(0, 0, 1), 59);
        T.due("a 61st CLAIM", x.claim(0, 0, 1), -1);
        T.due("a 61st VOID", x.annul(0), -1);
        T.due("count(3)", x.count(3), 60);
        T.due("points(0, 60)", x.points(0, 60), 1);
        T.due("points(0, 61)", x.points(0, 61), -1);
        T.due("first(59, 60)", x.first(59, 60), 0);
        Harness.read(x, "board a=cell 0 0;outline o=cell 0 0;");
        T.due("a new book", x.claim(0, 0, 1), 0);
        T.due("verdict", x.verdict(0), 2);
        T.due("verdict(1)", x.verdict(1), -1);
    }
}
