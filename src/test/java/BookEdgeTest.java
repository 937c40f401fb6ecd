/** The edges of the book (part IV of the document's terms) and of promises 28 to 32. */
public final class BookEdgeTest {
    private static final Harness T = new Harness("BookEdgeTest");
    private static final int[] BEYOND = {-1, Integer.MIN_VALUE, Integer.MAX_VALUE};

    public static void main(String[] args) {
        sixtyClaims();
        sixtyOfBoth();
        players();
        whatLiesThere();
        verdictOne();
        verdictTwo();
        verdictThree();
        verdictFour();
        verdictFive();
        right();
        voidsNumbered();
        known();
        voidsAmongThem();
        voidDirectlyBehind();
        points();
        samePoints();
        claim();
        noClaim();
        annul();
        noAnnul();
        verdict();
        noVerdict();
        first();
        noFirst();
        pointsByN();
        noPoints();
        T.finish();
    }

    /** One CELL as an outline, and two boards that fill it each alone; board 0 lies on it. */
    private static QuarterBoards oneCell() {
        QuarterBoards x = Harness.house("board a=cell 0 0;board b=cell 0 0;outline o=cell 1 1;outline p=cell 1 1;");
        x.lay(0, 0, 1, 1);
        return x;
    }

    private static void judged(QuarterBoards x, int outline, int set, int want) {
        int claim = x.claim(0, outline, set);
        T.due("verdict of claim(0, " + outline + ", " + set + ")", x.verdict(claim), want);
    }

    // Terms IV: "CLAIMS, numbered from 0 on, 60 at most:"
    private static void sixtyClaims() {
        QuarterBoards x = oneCell();
        for (int i = 0; i < 60; i++) {
            T.due("claim " + i, x.claim(i % 6, 0, 1), i);
        }
        String before = Harness.state(x);
        T.due("a 61st CLAIM", x.claim(0, 0, 1), -1);
        T.due("a VOID behind 60 CLAIMS", x.annul(59), -1);
        T.unchanged("a 61st", x, before);
        T.due("the last one", x.verdict(59), 0);
        T.due("one behind", x.verdict(60), -1);
        T.due("the last one's first", x.first(59, 60), 0);
        T.due("all of them", x.points(0, 60), 1);
    }

    // Terms IV: "VOIDS, numbered with the CLAIMS, name an earlier CLAIM."
    private static void sixtyOfBoth() {
        QuarterBoards x = oneCell();
        T.due("claim", x.claim(0, 0, 1), 0);
        for (int i = 1; i < 60; i++) {
            T.due("annul " + i, x.annul(0), i);
        }
        String before = Harness.state(x);
        T.due("a 61st entry, a VOID", x.annul(0), -1);
        T.due("a 61st entry, a CLAIM", x.claim(0, 0, 1), -1);
        T.unchanged("a 61st", x, before);
        T.due("how many", x.count(3), 60);
        T.due("a right text empties the book", Harness.read(x, "board a=cell 0 0;outline o=cell 0 0;"), 0);
        T.due("the first CLAIM", x.claim(0, 0, 1), 0);
    }

    // Terms IV: "a PLAYER (0 .. 5)"
    private static void players() {
        QuarterBoards x = oneCell();
        for (int player = 0; player <= 5; player++) {
            T.due("claim of player " + player, x.claim(player, 0, 1), player);
            T.due("points of player " + player, x.points(player, player + 1), player == 0 ? 1 : 0);
        }
        T.due("claim of player 6", x.claim(6, 0, 1), -1);
        T.due("points of player 6", x.points(6, 6), -1);
        T.due("claim of player -1", x.claim(-1, 0, 1), -1);
        T.due("points of player -1", x.points(-1, 6), -1);
    }

    // Terms IV: "shows what lies on THE TABLE for an outline and a SET."
    private static void whatLiesThere() {
        QuarterBoards x = oneCell();
        x.claim(0, 0, 1);
        x.lift(0);
        T.due("what lay there then", x.verdict(0), 0);
        x.claim(1, 0, 1);
        T.due("an empty TABLE", x.verdict(1), 2);
        x.lay(0, 0, 1, 1);
        T.due("what comes later is nothing to it", x.verdict(1), 2);
        T.due("a CLAIM leaves THE TABLE as it is", x.count(2), 1);
    }

    // Terms IV: "VERDICT, the least that is so: 1 a board lies there that is not of the SET,"
    private static void verdictOne() {
        QuarterBoards x = Harness.house("board a=cell 0 0;board b=cell 0 0;board c=cell 0 0;outline o=cell 1 1;");
        x.lay(0, 0, 5, 5);
        x.lay(1, 0, 5, 5);
        // all that is wrong at once: b not of it, c missing, both on one another, beyond, and the outline left open
        judged(x, 0, 5, 1);
        judged(x, 0, 1, 1);
        judged(x, 0, 2, 1);
        judged(x, 0, 4, 1);
        judged(x, 0, 3, 3);
    }

    // Terms IV: "2 one of the SET is missing,"
    private static void verdictTwo() {
        QuarterBoards x = Harness.house("board a=cell 0 0;board b=cell 0 0;board c=cell 0 0;outline o=cell 1 1;");
        judged(x, 0, 7, 2);
        x.lay(0, 0, 5, 5);
        x.lay(1, 0, 5, 5);
        // missing, on one another, beyond and open
        judged(x, 0, 7, 2);
        x.lay(2, 0, 5, 5);
        judged(x, 0, 7, 3);
    }

    // Terms IV: "3 two LAYS have a QUARTER in common,"
    private static void verdictThree() {
        QuarterBoards x = Harness.house("board a=half 0 0 0;board b=half 0 0 0;outline o=cell 1 1;outline p=cell 1 1"
            + "-quarter 1 1 3;");
        x.lay(0, 0, 1, 1);
        x.lay(1, 1, 1, 1);
        // QUARTERS 0 and 1, 1 and 2: one in common, and 3 is open
        judged(x, 0, 3, 3);
        // nothing else is wrong
        judged(x, 1, 3, 3);
        x.lift(1);
        x.lay(1, 2, 1, 1);
        judged(x, 0, 3, 0);
    }

    // Terms IV: "4 a QUARTER beyond the outline is covered,"
    private static void verdictFour() {
        QuarterBoards x = Harness.house("board a=cell 0 0;outline o=cell 1 1-quarter 1 1 3;outline p=quarter 1 1 0"
            + "+quarter 7 7 3;outline q=cell 1 1;");
        x.lay(0, 0, 1, 1);
        // one QUARTER beyond, the outline covered
        judged(x, 0, 1, 4);
        // beyond, and open
        judged(x, 1, 1, 4);
        judged(x, 2, 1, 0);
    }

    // Terms IV: "5 one of the outline is not;"
    private static void verdictFive() {
        QuarterBoards x = Harness.house("board a=cell 0 0-quarter 0 0 3;outline o=cell 1 1;outline p=cell 1 1"
            + "-quarter 1 1 3;");
        x.lay(0, 0, 1, 1);
        judged(x, 0, 1, 5);
        judged(x, 1, 1, 0);
    }

    // Terms IV: "else 0 RIGHT."
    private static void right() {
        QuarterBoards x = Harness.house(Harness.eightAndSix().replace("outline oa=ba;", "outline oa=box 0 7 8 1;"));
        for (int board = 0; board < 8; board++) {
            x.lay(board, 0, board, 7);
        }
        judged(x, 0, 255, 0);
        QuarterBoards y = Harness.house("board a=box 0 0 8 8;outline o=box 0 0 8 8;");
        y.lay(0, 3, 0, 0);
        judged(y, 0, 1, 0);
        // as it was told, not an ALIKE one elsewhere
        QuarterBoards z = Harness.house("board a=cell 0 0;outline o=cell 1 1;");
        z.lay(0, 0, 0, 0);
        T.due("shows", z.shows(), 0);
        judged(z, 0, 1, 4);
    }

    // Terms IV: "VOIDS, numbered with the CLAIMS"
    private static void voidsNumbered() {
        QuarterBoards x = oneCell();
        T.due("claim", x.claim(0, 0, 1), 0);
        T.due("annul", x.annul(0), 1);
        T.due("claim", x.claim(0, 0, 1), 2);
        T.due("annul", x.annul(2), 3);
        T.due("annul", x.annul(0), 4);
        T.due("how many of both", x.count(3), 5);
    }

    // Terms IV: "As KNOWN by n: the first n of both,"
    private static void known() {
        QuarterBoards x = oneCell();
        x.claim(0, 0, 1);
        x.claim(1, 0, 1);
        T.due("number 0 by 0", x.first(0, 0), -1);
        T.due("number 0 by 1", x.first(0, 1), 0);
        T.due("number 1 by 1", x.first(1, 1), -1);
        T.due("number 1 by 2", x.first(1, 2), 0);
        T.due("points by 0", x.points(0, 0), 0);
        T.due("points by 1", x.points(0, 1), 1);
    }

    // Terms IV: "without CLAIMS that a VOID among them names."
    private static void voidsAmongThem() {
        QuarterBoards x = oneCell();
        x.claim(0, 0, 1);
        x.claim(1, 0, 1);
        x.annul(0);
        x.claim(2, 0, 1);
        x.annul(1);
        // VOID 2 is among the first 3, not among the first 2
        T.due("number 0 by 2", x.first(0, 2), 0);
        T.due("number 0 by 3", x.first(0, 3), -1);
        T.due("number 1 by 2", x.first(1, 2), 0);
        T.due("number 1 by 3", x.first(1, 3), 1);
        T.due("number 3 by 4", x.first(3, 4), 1);
        T.due("number 3 by 5", x.first(3, 5), 3);
        int[][] want = {{0, 0, 0}, {1, 0, 0}, {1, 0, 0}, {0, 1, 0}, {0, 1, 0}, {0, 0, 1}};
        for (int n = 0; n <= 5; n++) {
            for (int player = 0; player < 3; player++) {
                T.due("points(" + player + ", " + n + ")", x.points(player, n), want[n][player]);
            }
        }
    }

    // Terms IV: "without CLAIMS that a VOID among them names."
    private static void voidDirectlyBehind() {
        QuarterBoards x = oneCell();
        x.claim(3, 0, 1);
        x.annul(0);
        T.due("by 1", x.points(3, 1), 1);
        T.due("by 2", x.points(3, 2), 0);
        T.due("first by 1", x.first(0, 1), 0);
        T.due("first by 2", x.first(0, 2), -1);
        // the last of sixty is a VOID
        for (int i = 2; i < 59; i++) {
            x.claim(4, 0, 1);
        }
        T.due("the last VOID", x.annul(2), 59);
        T.due("ahead of it", x.first(58, 59), 2);
        T.due("behind it", x.first(58, 60), 3);
    }

    // Terms IV: "POINTS of a PLAYER: of its RIGHT CLAIMS those than which no RIGHT CLAIM ahead, of whomever, KNOWN
    // by n, of this outline and SET, has the same QUARTERS covered by each board."
    private static void points() {
        QuarterBoards x = oneCell();
        x.claim(0, 0, 1);
        x.claim(0, 0, 1);
        x.claim(1, 0, 1);
        T.due("the same again counts once", x.points(0, 3), 1);
        T.due("of whomever", x.points(1, 3), 0);
        x.claim(1, 1, 1);
        T.due("another outline", x.points(1, 4), 1);
        x.lift(0);
        x.lay(1, 0, 1, 1);
        x.claim(1, 0, 2);
        T.due("another SET", x.points(1, 5), 2);
        x.claim(1, 0, 1);
        T.due("one that is not RIGHT", x.points(1, 6), 2);
        T.due("the other player", x.points(0, 6), 1);
        T.due("one without CLAIMS", x.points(5, 6), 0);
    }

    // Terms IV: "has the same QUARTERS covered by each board."
    private static void samePoints() {
        QuarterBoards x = Harness.house("board a=half 0 0 0;board b=half 0 0 0;outline o=cell 7 7;");
        // g of a and of b; 3 and 4, 2 and 7, 0 and 5, 1 and 6 are the same
        int[][] lays = {{0, 2}, {5, 7}, {2, 0}, {3, 1}, {4, 6}, {1, 3}};
        int[] first = {0, 0, 2, 3, 3, 5};
        for (int i = 0; i < lays.length; i++) {
            x.lift(0);
            x.lift(1);
            x.lay(0, lays[i][0], 7, 7);
            x.lay(1, lays[i][1], 7, 7);
            T.due("claim", x.claim(i, 0, 3), i);
            T.due("verdict", x.verdict(i), 0);
            T.due("first of " + i, x.first(i, i + 1), first[i]);
            T.due("points of " + i, x.points(i, i + 1), first[i] == i ? 1 : 0);
        }
        // the boards change places: a's QUARTERS are b's now
        QuarterBoards y = Harness.house("board a=cell 0 0;board b=cell 0 0;outline o=box 0 0 2 1;");
        for (int i = 0; i < 2; i++) {
            y.lay(0, 0, i, 0);
            y.lay(1, 0, 1 - i, 0);
            y.claim(0, 0, 3);
            y.lift(0);
            y.lift(1);
        }
        T.due("two of them", y.points(0, 2), 2);
    }

    // Promise 28: "A CLAIM: its number."
    private static void claim() {
        QuarterBoards x = oneCell();
        T.due("the last player, outline and SET", x.claim(5, 1, 3), 0);
        T.due("a wrong one has a number too", x.verdict(0), 2);
        T.due("the same again", x.claim(5, 1, 3), 1);
    }

    // Promise 28: "NONE, and nothing happens: 60 are there, no such PLAYER, outline, SET (0)."
    private static void noClaim() {
        QuarterBoards x = oneCell();
        x.claim(0, 0, 1);
        String before = Harness.state(x);
        for (int player : new int[] {6, -1, Integer.MIN_VALUE, Integer.MAX_VALUE}) {
            T.due("player " + player, x.claim(player, 0, 1), -1);
        }
        for (int outline : new int[] {2, 6, -1, Integer.MIN_VALUE, Integer.MAX_VALUE}) {
            T.due("outline " + outline, x.claim(0, outline, 1), -1);
        }
        for (int set : new int[] {0, 4, 5, 256, -1, Integer.MIN_VALUE, Integer.MAX_VALUE}) {
            T.due("SET " + set, x.claim(0, 0, set), -1);
        }
        T.unchanged("refused CLAIMS", x, before);
        T.due("of a new object", new QuarterBoards().claim(0, 0, 1), -1);
        T.due("without boards", Harness.house("outline o=cell 0 0;").claim(0, 0, 1), -1);
        T.due("SET 255", Harness.house(Harness.eightAndSix()).claim(0, 5, 255), 0);
        T.due("SET 256", Harness.house(Harness.eightAndSix()).claim(0, 5, 256), -1);
    }

    // Promise 29: "A VOID: its number."
    private static void annul() {
        QuarterBoards x = oneCell();
        x.claim(0, 0, 1);
        x.claim(0, 0, 2);
        T.due("annul(0)", x.annul(0), 2);
        T.due("a CLAIM that is not RIGHT", x.annul(1), 3);
        // nothing in the document rules it out
        T.due("one that is annulled already", x.annul(0), 4);
    }

    // Promise 29: "NONE, and nothing happens: 60 are there, no such CLAIM, a VOID."
    private static void noAnnul() {
        QuarterBoards x = oneCell();
        T.due("an empty book", x.annul(0), -1);
        x.claim(0, 0, 1);
        x.annul(0);
        x.claim(0, 0, 1);
        String before = Harness.state(x);
        T.due("a VOID", x.annul(1), -1);
        for (int claim : new int[] {3, 60, -1, Integer.MIN_VALUE, Integer.MAX_VALUE}) {
            T.due("annul(" + claim + ")", x.annul(claim), -1);
        }
        T.unchanged("refused VOIDS", x, before);
        T.due("the last one", x.annul(2), 3);
        T.due("of a new object", new QuarterBoards().annul(0), -1);
    }

    // Promise 30: "VERDICT of a CLAIM;"
    private static void verdict() {
        QuarterBoards x = oneCell();
        x.claim(0, 0, 1);
        x.annul(0);
        T.due("annulled it has its VERDICT still", x.verdict(0), 0);
    }

    // Promise 30: "NONE: there is none such, a VOID."
    private static void noVerdict() {
        QuarterBoards x = oneCell();
        T.due("an empty book", x.verdict(0), -1);
        x.claim(0, 0, 1);
        x.annul(0);
        T.due("a VOID", x.verdict(1), -1);
        T.due("one behind", x.verdict(2), -1);
        T.due("number 60", x.verdict(60), -1);
        for (int beyond : BEYOND) {
            T.due("verdict(" + beyond + ")", x.verdict(beyond), -1);
        }
        T.due("of a new object", new QuarterBoards().verdict(0), -1);
    }

    // Promise 31: "The first CLAIM, RIGHT and KNOWN by n, that has the same as a RIGHT one (perhaps itself);"
    private static void first() {
        QuarterBoards x = oneCell();
        x.claim(0, 0, 3);
        x.claim(1, 1, 1);
        x.claim(2, 0, 1);
        x.claim(3, 0, 1);
        x.claim(4, 0, 1);
        T.due("itself", x.first(2, 5), 2);
        T.due("one ahead", x.first(3, 5), 2);
        T.due("two ahead: the first", x.first(4, 5), 2);
        x.annul(2);
        T.due("what is annulled is not KNOWN", x.first(4, 6), 3);
        T.due("by then it was", x.first(4, 5), 2);
        T.due("itself, of another outline", x.first(1, 6), 1);
    }

    // Promise 31: "NONE: that is not RIGHT, not KNOWN, no such ones."
    private static void noFirst() {
        QuarterBoards x = oneCell();
        x.claim(0, 0, 3);
        x.claim(1, 0, 1);
        x.claim(2, 0, 1);
        x.annul(1);
        T.due("not RIGHT", x.first(0, 4), -1);
        T.due("annulled", x.first(1, 4), -1);
        T.due("not yet annulled", x.first(1, 3), 1);
        T.due("not yet there", x.first(2, 2), -1);
        T.due("a VOID", x.first(3, 4), -1);
        T.due("no such CLAIM", x.first(4, 4), -1);
        T.due("by all", x.first(2, 4), 2);
        T.due("by more than there are", x.first(2, 5), -1);
        for (int beyond : BEYOND) {
            T.due("first(" + beyond + ", 4)", x.first(beyond, 4), -1);
            T.due("first(2, " + beyond + ")", x.first(2, beyond), -1);
        }
        T.due("of a new object", new QuarterBoards().first(0, 0), -1);
    }

    // Promise 32: "POINTS of a PLAYER, as KNOWN by n;"
    private static void pointsByN() {
        QuarterBoards x = new QuarterBoards();
        T.due("of a new object", x.points(0, 0), 0);
        Harness.read(x, Harness.eightAndSix());
        // each of eight boards on each of six outlines, and twelve of these again
        for (int i = 0; i < 60; i++) {
            int board = i % 8;
            x.lay(board, 0, 0, 0);
            x.claim(5, i / 8 % 6, 1 << board);
            x.lift(board);
        }
        T.due("by all", x.points(5, 60), 48);
        T.due("by 48", x.points(5, 48), 48);
        T.due("by 47", x.points(5, 47), 47);
        T.due("by none", x.points(5, 0), 0);
        T.due("another player", x.points(4, 60), 0);
    }

    // Promise 32: "POINTS of a PLAYER, as KNOWN by n; NONE: no such ones."
    private static void noPoints() {
        QuarterBoards x = oneCell();
        x.claim(0, 0, 1);
        T.due("by 1", x.points(0, 1), 1);
        T.due("by more than there are", x.points(0, 2), -1);
        T.due("player 6", x.points(6, 1), -1);
        for (int beyond : BEYOND) {
            T.due("points(" + beyond + ", 1)", x.points(beyond, 1), -1);
            T.due("points(0, " + beyond + ")", x.points(0, beyond), -1);
        }
        T.due("of a new object by 1", new QuarterBoards().points(0, 1), -1);
    }
}
