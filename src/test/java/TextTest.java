/** Promises 1 to 5 and 33: the new object, the tape, and the text with its FAULTS. */
public final class TextTest {
    private static final Harness T = new Harness("TextTest");

    public static void main(String[] args) {
        newObject();
        tape();
        tokens();
        syntax();
        room();
        names();
        wrongInts();
        offAndEmpty();
        orderOfFaults();
        whatReadChanges();
        counts();
        T.finish();
    }

    private static void fault(String text, int number, int place) {
        T.due("read of " + text, Harness.faultOf(new QuarterBoards(), text),
            number == 0 ? 0 : 10000 * number + place);
    }

    private static void newObject() {
        QuarterBoards x = new QuarterBoards();
        for (int what = -1; what <= 5; what++) {
            T.due("count(" + what + ") of a new one", x.count(what), what < 0 || what > 4 ? -1 : 0);
        }
        T.due("place() of a new one", x.place(), -1);
        T.due("steps() of a new one", x.steps(), 0);
        T.due("shows() of a new one", x.shows(), -2);
        T.due("clashes() of a new one", x.clashes(), 0);
        T.due("lift(0) of a new one", x.lift(0), false);
        T.due("area(true, 0) of a new one", x.area(true, 0), -1);
        T.due("claim of a new one", x.claim(0, 0, 1), -1);
        T.due("NONE", QuarterBoards.NONE, -1);
    }

    private static void tape() {
        QuarterBoards x = new QuarterBoards();
        T.due("back(0) of an empty tape", x.back(0), 0);
        T.due("back(1) of an empty tape", x.back(1), -1);
        T.due("back(-1)", x.back(-1), -1);
        T.due("back(least int)", x.back(Integer.MIN_VALUE), -1);
        for (int i = 1; i <= 100; i++) {
            T.due("feed " + i, x.feed(0x20202020, 0x20202020, 0x20202020, 0x20202020, 0x20202020), 20 * i);
        }
        T.due("feed beyond 2000", x.feed(0, 0, 0, 0, 0), -1);
        T.due("the tape is left as it was", x.count(4), 2000);
        T.due("back(2001)", x.back(2001), -1);
        T.due("back(1)", x.back(1), 1999);
        T.due("feed at 1999", x.feed(0, 0, 0, 0, 0), -1);
        T.due("back(19)", x.back(19), 1980);
        T.due("feed at 1980", x.feed(0x20202020, 0x20202020, 0x20202020, 0x20202020, 0x20202061), 2000);
        T.due("read()", x.read(), 1);
        T.due("place(): the lowest byte of e is the last one", x.place(), 1999);
        T.due("read() empties the tape", x.count(4), 0);
        x.feed(0x61202020, 0x20202020, 0x20202020, 0x20202020, 0x20202020);
        T.due("read()", x.read(), 1);
        T.due("place(): the highest byte of a is the first one", x.place(), 0);
        T.due("back behind read()", x.back(1), -1);
        T.due("an empty text", x.read(), 0);
        T.due("place() without", x.place(), -1);
    }

    private static void tokens() {
        fault("board a=cell 0 0;", 0, 0);
        fault("\tboard\na\r= cell0 0 ;  ", 0, 0);
        fault("boarda=cell 0 0;", 1, 0);
        fault("board a=cell 00 07;", 0, 0);
        fault("board a=cell 000 0;", 1, 13);
        fault("board a=cell 0000;", 1, 13);
        fault("board abcdefgh=cell 0 0;", 0, 0);
        fault("board abcdefghi=cell 0 0;", 1, 6);
        fault("board quarters=cell 0 0;", 0, 0);
        fault("board quarter=cell 0 0;", 1, 6);
        fault("board A=cell 0 0;", 1, 6);
        fault("board a1=cell 0 0;", 1, 7);
        fault("board a=cell 0 0,", 1, 16);
        fault("board a=cell 0 0;\u00ff", 1, 17);
        fault("board a=cell 0 0;\u0000", 1, 17);
        fault("board a=cell 0\u000b0;", 1, 14);
        fault("board a=turnflip cell 0 0;", 1, 17);
        fault("board a=cellx;", 4, 8);
        for (String word : new String[] {"board", "outline", "turn", "flip", "base", "shift", "cell",
            "box", "half", "quarter"}) {
            fault("outline " + word + "=cell 0 0;", 1, 8);
        }
    }

    private static void syntax() {
        fault("", 0, 0);
        fault("   ", 0, 0);
        fault("cell", 1, 0);
        fault("board", 1, 5);
        fault("board a", 1, 7);
        fault("board a  ", 1, 9);
        fault("board a=", 1, 8);
        fault("board a=;", 1, 8);
        fault("board a=cell 0 0", 1, 16);
        fault("board a=cell 0 0 ;;", 1, 18);
        fault("board a=cell 0;", 1, 14);
        fault("board a=cell -0 0;", 1, 13);
        fault("board a=box 0 0 1;", 1, 17);
        fault("board a=half 0 0;", 1, 16);
        fault("board a=quarter 0 0;", 1, 19);
        fault("board a=cell 0 0 0;", 1, 17);
        fault("board a=cell 0 0 turn;", 1, 17);
        fault("board a=turn;", 1, 12);
        fault("board a=shift 1 cell 0 0;", 1, 16);
        fault("board a=shift - 1 - 1 cell 1 1;", 0, 0);
        fault("board a=shift - - 1 1 cell 1 1;", 1, 16);
        fault("board a=shift 1 + 1 cell 1 1;", 1, 16);
        fault("board a=cell 0 0);", 1, 16);
        fault("board a=(cell 0 0;", 1, 17);
        fault("board a=(cell 0 0)", 1, 18);
        fault("board a=();", 1, 9);
        fault("board a=cell 0 0 +;", 1, 18);
        fault("board a=+cell 0 0;", 1, 8);
        fault("board a=cell 0 0 outline", 1, 17);
        fault("board a=cell 0 0; b=a;", 1, 18);
    }

    private static void room() {
        StringBuilder text = new StringBuilder();
        for (int i = 0; i < 8; i++) {
            text.append("board a").append((char) ('a' + i)).append("=cell 0 0;");
        }
        for (int i = 0; i < 6; i++) {
            text.append("outline b").append((char) ('a' + i)).append("=cell 0 0;");
        }
        fault(text.toString(), 0, 0);
        fault(text + "board", 2, text.length());
        fault(text + "outline", 2, text.length());
        fault(text + "cell", 1, text.length());
        fault("board a=((((((cell 0 0))))));", 0, 0);
        fault("board a=(((((((cell 0 0)))))));", 2, 14);
        fault("board a=((((((cell 0 0))))))+((((((cell 0 0))))));", 0, 0);
        fault("board a=((((((cell 0 0+(cell 0 0)))))));", 2, 23);
        fault("board a=(((((((;", 2, 14);

        // 3 TOKENS ahead, 2 for each " + a", 1 for the last
        String head = "board a=cell 0 0;board b=a";
        StringBuilder sum = new StringBuilder(head);
        for (int i = 0; i < 194; i++) {
            sum.append("+a");
        }
        // 7 + 4 + 388 are 399 TOKENS
        fault(sum + ";", 0, 0);
        fault(sum + ";board", 2, sum.length() + 1);
        fault(sum + ";turn", 1, sum.length() + 1);
        fault(sum + "; ?", 1, sum.length() + 2);
        fault(sum + "+", 1, sum.length() + 1);
        fault(sum + "+a", 2, sum.length() + 1);
        fault(sum + "+a;", 2, sum.length() + 1);
        fault(sum + "+;", 1, sum.length() + 1);
    }

    private static void names() {
        fault("board a=cell 0 0;board a=cell 0 0;", 3, 23);
        fault("board a=cell 0 0;outline a=cell 0 0;", 3, 25);
        fault("outline a=cell 0 0;board a=cell 0 0;", 3, 25);
        fault("board a=a;", 4, 8);
        fault("board a=cell 0 0+a;", 4, 17);
        fault("board a=b;board b=cell 0 0;", 4, 8);
        fault("board a=cell 0 0;outline b=a;board c=b+a;", 0, 0);
        fault("board a=cell 0 0;outline b=turn(a);board c=flip b;", 0, 0);
        fault("board a=cell 0 0;board a=x+cell 9 9;", 3, 23);
        fault("board a=x+cell 9 9;", 4, 8);
        fault("board a=cell 9 9+x;", 5, 13);
    }

    private static void wrongInts() {
        fault("board a=cell 7 7;", 0, 0);
        fault("board a=cell 8 0;", 5, 13);
        fault("board a=cell 0 8;", 5, 15);
        fault("board a=cell 99 99;", 5, 13);
        fault("board a=box 0 0 8 8;", 0, 0);
        fault("board a=box 7 7 1 1;", 0, 0);
        fault("board a=box 0 0 0 1;", 5, 16);
        fault("board a=box 0 0 1 0;", 5, 18);
        fault("board a=box 1 0 8 1;", 5, 16);
        fault("board a=box 0 1 1 8;", 5, 18);
        fault("board a=box 8 0 1 1;", 5, 12);
        fault("board a=box 0 8 1 1;", 5, 14);
        fault("board a=half 0 0 3;", 0, 0);
        fault("board a=half 0 0 4;", 5, 17);
        fault("board a=half 8 0 4;", 5, 13);
        fault("board a=half 0 8 4;", 5, 15);
        fault("board a=quarter 0 0 3;", 0, 0);
        fault("board a=quarter 0 0 4;", 5, 20);
        fault("board a=shift 7 7 cell 0 0;", 0, 0);
        fault("board a=shift 8 0 cell 0 0;", 5, 14);
        fault("board a=shift -8 0 cell 0 0;", 5, 15);
        fault("board a=shift 0 -8 cell 0 0;", 5, 17);
        fault("board a=box 0 0 8 4 + box 0 4 4 4;", 0, 0);
    }

    private static void offAndEmpty() {
        fault("board a=shift 1 0 cell 7 0;", 6, 8);
        fault("board a=shift 0 1 cell 0 7;", 6, 8);
        fault("board a=shift -1 0 cell 0 0;", 6, 8);
        fault("board a=shift 0 -1 cell 0 0;", 6, 8);
        fault("board a=shift -7 -7 cell 7 7;", 0, 0);
        fault("board a=shift 1 0 shift 7 0 cell 1 0;", 6, 18);
        fault("board a=shift -1 0 shift 1 0 cell 7 0;", 6, 19);
        fault("board a=shift 7 0 turn shift 0 1 cell 1 0;", 6, 8);
        fault("board a=shift 7 7 (cell 0 0 + shift 7 0 cell 1 0);", 6, 30);
        fault("board a=cell 0 0 + shift 7 0 (cell 1 0 - shift 0 7 cell 0 1);", 6, 41);
        fault("board a=cell 0 0 & cell 1 0;", 7, 6);
        fault("outline ab=cell 0 0 - box 0 0 2 2;", 7, 8);
        fault("board a=cell 0 0 - cell 0 0 + cell 0 0;", 0, 0);
        fault("board a=cell 0 0 - (cell 0 0 + cell 1 0);", 7, 6);
        // no CELL is left that could be none
        fault("board a=cell 0 0 + shift 7 7 base turn flip (cell 1 1 - cell 1 1);", 0, 0);
    }

    private static void orderOfFaults() {
        fault("board a=cell 9 0;board a=?", 1, 25);
        fault("board a=shift 1 0 cell 7 0;board b=cell 0 9;", 5, 42);
        fault("board a=cell 0 0-cell 0 0;board b=shift 1 0 cell 7 0;", 7, 6);
        fault("board a=shift 1 0 cell 7 0;board b=cell 0 0-cell 0 0;", 6, 8);
        fault("board a=cell 0 0-shift 1 0 cell 7 0;", 6, 17);
        fault("board a=cell 0 0-cell 0 0;board c=c;", 4, 34);
        fault("board a=cell 8 0;board a=cell 0 0;", 5, 13);
        fault("board a=(((((((cell 0 0))))))) ?", 2, 14);
    }

    private static void whatReadChanges() {
        QuarterBoards x = Harness.house("board a=cell 0 0;outline b=cell 1 1;outline c=half 0 0 0+half 0 0 2;");
        x.lay(0, 0, 1, 1);
        x.claim(0, 0, 1);
        x.fill(0, 1);
        x.cut(0, 1);
        T.due("a faulty text", Harness.read(x, "board"), 1);
        T.due("place()", x.place(), 5);
        T.due("boards", x.count(0), 1);
        T.due("outlines", x.count(1), 2);
        T.due("LAYS", x.count(2), 1);
        T.due("CLAIMS", x.count(3), 1);
        T.due("filled", x.filled(0, 1), 1);
        T.due("laid", x.laid(0), 0);
        T.due("sets", x.sets(0), 1);
        T.due("an EMPTY text", Harness.read(x, "board q=cell 3 3;board z=cell 0 0-cell 0 0;"), 7);
        T.due("area", x.area(false, 1), -1);
        T.due("a right text", Harness.read(x, "outline p=quarter 0 0 0;board q=half 0 0 0;board r=box 0 0 2 1;"), 0);
        T.due("place()", x.place(), -1);
        T.due("boards", x.count(0), 2);
        T.due("outlines", x.count(1), 1);
        T.due("LAYS", x.count(2), 0);
        T.due("CLAIMS", x.count(3), 0);
        T.due("filled", x.filled(0, 1), -100);
        T.due("laid", x.laid(0), -100);
        T.due("part", x.part(0), -1);
        T.due("sets", x.sets(0), 0);
        T.due("area of board 0", x.area(false, 0), 2);
        T.due("area of board 1", x.area(false, 1), 8);
        T.due("area of outline 0", x.area(true, 0), 1);
        T.due("an empty text", x.read(), 0);
        T.due("boards", x.count(0), 0);
        T.due("outlines", x.count(1), 0);
        T.due("area of board 0", x.area(false, 0), -1);
    }

    private static void counts() {
        QuarterBoards x = Harness.house("board a=cell 0 0;board b=cell 0 0;outline c=a;");
        x.lay(1, 0, 0, 0);
        x.claim(5, 0, 3);
        x.annul(0);
        Harness.feed(x, "abc");
        int[] want = {2, 1, 1, 2, 3};
        for (int what = 0; what < want.length; what++) {
            T.due("count(" + what + ")", x.count(what), want[what]);
        }
        T.due("count(5)", x.count(5), -1);
        T.due("count(-1)", x.count(-1), -1);
    }
}
