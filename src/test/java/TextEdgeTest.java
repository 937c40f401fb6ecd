/** The edges of the text (part II of the document's terms): TOKENS, FAULTS in their order, OFF, EMPTY. */
public final class TextEdgeTest {
    private static final Harness T = new Harness("TextEdgeTest");
    private static final String[] WORDS = {"board", "outline", "turn", "flip", "base", "shift", "cell", "box",
        "half", "quarter"};
    private static final String SIGNS = ";=+-&()";
    // 399 TOKENS: 7, 4, and 194 times 2
    private static final String ALL_BUT_ONE = "board a=cell 0 0;board b=a" + "+a".repeat(194);

    public static void main(String[] args) {
        longestText();
        blanks();
        longestToken();
        names();
        wordsAreNoNames();
        ints();
        signs();
        noTokens();
        manyOrNone();
        sums();
        partWords();
        units();
        cells();
        joins();
        orderOfWords();
        namesAhead();
        namesApart();
        firstByItsPlace();
        endOfText();
        textsOneBehindTheOther();
        leastOfOnePlace();
        syntax();
        roomForTokens();
        roomForBoards();
        roomForOutlines();
        roomForBrackets();
        roundTwo();
        twice();
        unknownName();
        wrongXY();
        wrongSides();
        wrongDirections();
        wrongShifts();
        roundThree();
        bracketsAhead();
        off();
        nothingGoesOff();
        empty();
        faultChangesNothing();
        rightTextChangesAll();
        numberedFromNull();
        T.finish();
    }

    private static void right(String text) {
        T.fault(text, 0, 0);
    }

    private static int areaOf(String e) {
        return Harness.house("outline o=" + e + ";").area(true, 0);
    }

    // Terms II: "A TEXT has 2,000 bytes at most."
    private static void longestText() {
        right("board a=cell 0 0" + " ".repeat(1983) + ";");
        T.fault("board a=cell 0 0" + " ".repeat(1983) + "?", 1, 1999);
    }

    // Terms II: "with blanks (9, 10, 13, 32) between or not"
    private static void blanks() {
        for (int sign = 0; sign < 256; sign++) {
            boolean isBlank = sign == 9 || sign == 10 || sign == 13 || sign == 32;
            T.fault((char) sign + "board a=cell 0 0;", isBlank ? 0 : 1, 0);
            T.fault("board a=cell 0 0;" + (char) sign, isBlank ? 0 : 1, 17);
            T.fault("board" + (char) sign + "=cell 0 0;", 1, isBlank ? 6 : sign >= 'a' && sign <= 'z' ? 0 : 5);
        }
        right("board a=shift-0-0(cell 0 0)-cell 1 0;");
        right("\t\n\r board\t\n\r a\t\n\r =\t\n\r cell\t\n\r 0\t\n\r 0\t\n\r ;\t\n\r ");
    }

    // Terms II: "TOKENS, the longest that can be"
    private static void longestToken() {
        T.fault("boarda=cell 0 0;", 1, 0);
        T.fault("board a=turnbase cell 0 0;", 1, 17);
        T.fault("board a=cells 0 0;", 1, 14);
        right("board a=cell0 0;");
        T.fault("board a=cell 00;", 1, 15);
        T.fault("board a=cell 10 0;", 5, 13);
        right("board a=cell 1 0;");
    }

    // Terms II: "NAMES (letters a .. z, 8 at most"
    private static void names() {
        right("board a=cell 0 0;board b=a;");
        right("board z=cell 0 0;board b=z;");
        right("board abcdefgh=cell 0 0;board zzzzzzzz=abcdefgh;");
        T.fault("board abcdefghi=cell 0 0;", 1, 6);
        T.fault("board a=bcdefghij;", 1, 8);
        T.fault("board a=cell 0 0;board abcdefgh=a;board abcdefg=a;board abcdefgi=abcdefgj;", 4, 65);
        for (char beyond : new char[] {'a' - 1, 'z' + 1, 'A', 'Z', '_', (char) ('a' + 128)}) {
            T.fault("board " + beyond + "=cell 0 0;", 1, 6);
            T.fault("board b" + beyond + "=cell 0 0;", 1, 7);
        }
    }

    // Terms II: "none of the words in quotes)"
    private static void wordsAreNoNames() {
        for (String word : WORDS) {
            T.fault("outline " + word + "=cell 0 0;", 1, 8);
            String near = word.length() < 8 ? word + "s" : word.substring(0, 7);
            right("outline " + near + "=cell 0 0;");
            right("outline " + word.substring(1) + "=cell 0 0;");
            right("outline " + word.substring(0, word.length() - 1) + "=cell 0 0;");
        }
    }

    // Terms II: "INTS (1 or 2 digits)"
    private static void ints() {
        right("board a=cell 0 7;");
        right("board a=cell 00 07;");
        T.fault("board a=cell 000 0;", 1, 13);
        T.fault("board a=cell 0 007;", 1, 15);
        T.fault("board a=cell 0 99;", 5, 15);
        T.fault("board a=cell 0 100;", 1, 15);
        T.fault("board a=cell 0 4294967296;", 1, 15);
        T.fault("board a=cell 0 " + "0".repeat(1900) + ";", 1, 15);
    }

    // Terms II: "SIGNS ; = + - & ( ) ."
    private static void signs() {
        for (int sign = 0; sign < 256; sign++) {
            boolean isSign = SIGNS.indexOf(sign) >= 0;
            // each sign fits just one of these places; behind it the text has to go on
            boolean joins = isSign && "+-&".indexOf(sign) >= 0;
            if (sign < 'a' || sign > 'z') {
                T.fault("board a" + (char) sign + "?", 1, sign == '=' || isBlank(sign) ? 8 : 7);
                T.fault("board a=" + (char) sign + "?", 1, sign == '(' || isBlank(sign) ? 9 : 8);
            }
            if (sign < '0' || sign > '9') {
                T.fault("board a=cell 0 0" + (char) sign + "?", 1, joins || sign == ';' || isBlank(sign) ? 17 : 16);
                T.fault("board a=(cell 0 0" + (char) sign + "?", 1, joins || sign == ')' || isBlank(sign) ? 18 : 17);
            }
        }
    }

    private static boolean isBlank(int sign) {
        return sign == 9 || sign == 10 || sign == 13 || sign == 32;
    }

    // Terms II: "A longer one, all else, is no TOKEN."
    private static void noTokens() {
        T.fault("outlines a=cell 0 0;", 1, 0);
        T.fault("outlinesx a=cell 0 0;", 1, 0);
        T.fault("board " + "a".repeat(1994), 1, 6);
        // none of its letters are left over for another TOKEN
        T.fault("board a=cell 0 0;board aaaaaaaaa=cell 0 0;", 1, 23);
        T.fault("board a=cell 0 0,", 1, 16);
        T.fault("board a=cell 0.0;", 1, 14);
        T.fault("board a='cell' 0 0;", 1, 8);
    }

    // Terms II: "text: {('board' | 'outline') NAME '=' E ';'}."
    private static void manyOrNone() {
        right("");
        right(" ");
        right("outline a=cell 0 0;");
        right("outline a=cell 0 0;board b=cell 0 0;outline c=a;board d=b;");
        T.fault(";", 1, 0);
        T.fault("board a=cell 0 0;;", 1, 17);
        T.fault("board a=cell 0 0 board b=cell 0 0;", 1, 17);
        T.fault("board a cell 0 0;", 1, 8);
        T.fault("board =cell 0 0;", 1, 6);
        T.fault("a=cell 0 0;", 1, 0);
    }

    // Terms II: "E: PART {('+' | '-' | '&') PART}."
    private static void sums() {
        right("board a=cell 0 0+cell 0 0-cell 1 1&cell 0 0;");
        T.fault("board a=;", 1, 8);
        T.fault("board a=+cell 0 0;", 1, 8);
        T.fault("board a=cell 0 0+;", 1, 17);
        T.fault("board a=cell 0 0+-cell 0 0;", 1, 17);
        T.fault("board a=cell 0 0 cell 0 0;", 1, 17);
    }

    // Terms II: "PART: {'turn' | 'flip' | 'base' | 'shift' ['-'] INT ['-'] INT} UNIT."
    private static void partWords() {
        right("board a=turn flip base shift 0 0 shift -0 0 shift 0 -0 shift -0 -0 cell 0 0;");
        T.fault("board a=turn;", 1, 12);
        T.fault("board a=turn +cell 0 0;", 1, 13);
        T.fault("board a=shift cell 0 0;", 1, 14);
        T.fault("board a=shift 0 cell 0 0;", 1, 16);
        T.fault("board a=shift 0 - cell 0 0;", 1, 18);
        T.fault("board a=shift --0 0 cell 0 0;", 1, 15);
        T.fault("board a=shift +0 0 cell 0 0;", 1, 14);
        T.fault("board a=shift 0 0 0 cell 0 0;", 1, 18);
        T.fault("board a=shift 0 0;", 1, 17);
        T.fault("board a=cell 0 0 turn;", 1, 17);
    }

    // Terms II: "UNIT: NAME | '(' E ')' | 'cell' INT INT | 'box' INT INT INT INT | 'half' INT INT INT | 'quarter'
    // INT INT INT."
    private static void units() {
        T.fault("board a=();", 1, 9);
        T.fault("board a=(cell 0 0;", 1, 17);
        T.fault("board a=cell 0 0);", 1, 16);
        T.fault("board a=(cell 0 0));", 1, 18);
        T.fault("board a=cell 0;", 1, 14);
        T.fault("board a=cell 0 0 0;", 1, 17);
        T.fault("board a=box 0 0 1;", 1, 17);
        T.fault("board a=box 0 0 1 1 1;", 1, 20);
        T.fault("board a=half 0 0;", 1, 16);
        T.fault("board a=half 0 0 0 0;", 1, 19);
        T.fault("board a=quarter 0 0;", 1, 19);
        T.fault("board a=quarter 0 0 0 0;", 1, 22);
        T.fault("board a=cell -0 0;", 1, 13);
    }

    // Terms II: "cell x y: its four QUARTERS; box x y w h: of w by h CELLS from x, y on; half x y d: QUARTERS d and
    // the next one of a CELL; quarter x y d."
    private static void cells() {
        T.due("the first CELL", areaOf("cell 0 0 & cell 0 0"), 4);
        T.due("the last CELL", areaOf("cell 7 7"), 4);
        T.due("the least box", areaOf("box 7 7 1 1 & cell 7 7"), 4);
        T.due("the greatest box", areaOf("box 0 0 8 8"), 256);
        T.due("w is the width", areaOf("box 5 6 3 2 & box 5 6 3 1"), 12);
        T.due("h is the height", areaOf("box 6 5 2 3 & box 6 5 1 3"), 12);
        for (int d = 0; d < 4; d++) {
            QuarterBoards x = Harness.house("outline h=half 7 7 " + d + ";outline q=quarter 7 7 " + d + ";");
            for (int of = 0; of < 4; of++) {
                T.due("half " + d + " has " + of, x.has(true, 0, 252 + of), of == d || of == (d + 1) % 4 ? 1 : 0);
                T.due("quarter " + d + " has " + of, x.has(true, 1, 252 + of), of == d ? 1 : 0);
            }
        }
    }

    // Terms II: "+ has what either has, - what the first has and the second not, & what both have, from left to
    // right."
    private static void joins() {
        T.due("of the same", areaOf("cell 0 0 + cell 0 0"), 4);
        T.due("of others", areaOf("cell 0 0 + cell 1 0"), 8);
        T.due("what is not there", areaOf("cell 0 0 - cell 1 0"), 4);
        T.due("what is more than all but one", areaOf("box 0 0 2 2 - box 1 0 7 8 - cell 0 0"), 4);
        T.due("what both have", areaOf("box 0 0 2 1 & box 1 0 2 1"), 4);
        T.due("taken away and joined again", areaOf("cell 0 0 - cell 0 0 + cell 0 0"), 4);
        T.due("joined, then &", areaOf("cell 0 0 + cell 1 0 & cell 1 0"), 4);
        T.due("joined, then -", areaOf("cell 0 0 + cell 1 0 - (cell 1 0 - cell 1 0)"), 8);
        T.due("taken away twice", areaOf("box 0 0 3 1 - cell 0 0 - cell 1 0"), 4);
        T.due("in brackets", areaOf("box 0 0 3 1 - (cell 0 0 - cell 0 0 + cell 1 0)"), 8);
    }

    // Terms II: "Words ahead of a UNIT are done from the last one to the first one."
    private static void orderOfWords() {
        QuarterBoards x = Harness.house("outline a=turn shift 1 0 quarter 0 0 0;outline b=shift 0 1 turn quarter 0 0 0;"
            + "outline c=base shift 7 7 quarter 0 0 0;outline d=shift 7 7 base quarter 3 3 0;"
            + "outline e=turn flip quarter 0 0 1;outline f=flip turn quarter 0 0 1;");
        T.due("shifted, then turned", x.has(true, 0, 4 * (8 * 1 + 7) + 1), 1);
        T.due("turned, then shifted", x.has(true, 1, 4 * (8 * 1 + 7) + 1), 1);
        T.due("shifted, then its BASE", x.has(true, 2, 0), 1);
        T.due("its BASE, then shifted", x.has(true, 3, 252), 1);
        T.due("flipped, then turned", x.has(true, 4, 4 * (8 * 7 + 7) + 0), 1);
        T.due("turned, then flipped", x.has(true, 5, 2), 1);
        // the words bind to the UNIT alone, not to the sum
        T.due("a word and a sum", Harness.house("outline o=shift 1 0 cell 0 0+cell 0 0;").has(true, 0, 0), 1);
    }

    // Terms II: "A NAME is a board or an outline told wholly ahead in this text."
    private static void namesAhead() {
        right("board a=cell 0 0;outline b=a;board c=b;");
        T.fault("board a=a;", 4, 8);
        T.fault("board a=cell 0 0+(a);", 4, 18);
        T.fault("board a=b;outline b=cell 0 0;", 4, 8);
        QuarterBoards x = Harness.house("board a=cell 0 0;");
        T.due("a NAME of the text ahead", Harness.faultOf(x, "board b=a;"), 40008);
        T.due("told anew", Harness.faultOf(x, "outline a=cell 0 0;"), 0);
    }

    // Terms II: "NAMES (letters a .. z, 8 at most"
    private static void namesApart() {
        // they differ in the first letter of eight, in the last, in their length, in the order of letters
        String[][] near = {{"abcdefgh", "bbcdefgh", "abcdefgi", "abcdefg", "bcdefgh", "badcfehg", "zbcdefgh"},
            {"a", "aa", "aaa", "q", "qa", "aq", "aaaaaaaa"}, {"z", "zz", "y", "p", "ap", "pa", "zzzzzzzz"},
            {"b", "ab", "ba", "r", "c", "ac", "bc"}, {"oard", "boar", "boards", "bord", "aboard", "cells", "boxx"},
            {"aa", "ba", "ca", "da", "ea", "fa", "ga"}, {"az", "cz", "ez", "gz", "iz", "kz", "mz"},
            {"nm", "pm", "rm", "tm", "vm", "xm", "zm"}, {"ka", "kb", "kd", "kh", "kp", "kx", "kz"}};
        for (String[] names : near) {
            StringBuilder text = new StringBuilder();
            for (int i = 0; i < 7; i++) {
                text.append("board ").append(names[i]).append("=box 0 0 ").append(i + 1).append(" 1;");
            }
            for (int i = 0; i < 7; i++) {
                QuarterBoards x = Harness.house(text + "outline other=" + names[i] + ";");
                T.due("area of " + names[i], x.area(true, 0), 4 * (i + 1));
                T.fault(text + "outline " + names[i] + "=cell 0 0;", 3, text.length() + 8);
            }
        }
    }

    // Terms II: "FAULTS, the first by its place (a byte; the text's end: its length), of one place the least:"
    private static void firstByItsPlace() {
        T.fault("? board a=(((((((cell 0 0)))))));", 1, 0);
        T.fault("board a=(((((((cell 0 0))))))) ?", 2, 14);
        T.fault("board a=(((((((?", 2, 14);
        T.fault("board a=((((((?", 1, 14);
        T.fault("board a=cell 0 0;board a=cell 8 0+b;", 3, 23);
        T.fault("board a=b+cell 8 0;board a=cell 0 0;", 4, 8);
        T.fault("board a=cell 8 8+b;", 5, 13);
        // blanks ahead of a TOKEN are not its place
        T.fault("  board a = cell 0   8;", 5, 21);
    }

    // Terms II: "(a byte; the text's end: its length)"
    private static void endOfText() {
        String text = "board a=(shift -1 -0 cell 1 0)+box 0 0 1 1;";
        for (int length = 0; length <= text.length(); length++) {
            String cut = text.substring(0, length);
            boolean whole = length == 0 || length == text.length();
            // a word or number that is cut short, too, is at the end the longest TOKEN that can be
            int place = isOpenWord(cut) ? cut.length() - lastWord(cut).length() : length;
            T.fault(cut, whole ? 0 : 1, place);
        }
        T.fault("board a=cell 0 0  ", 1, 18);
        T.fault("board a=cell 0 0" + " ".repeat(1984), 1, 2000);
    }

    // Terms II: "FAULTS, the first by its place"
    private static void textsOneBehindTheOther() {
        // what one text has used up is there again for the next one, also behind a FAULT
        String[] texts = {Harness.eightAndSix(), ALL_BUT_ONE + ";", "board a=((((((cell 0 0))))));", "board a=((((((",
            "board a=cell 0 0+(shift 1 0 turn cell 7 0);", "board", "board a=shift -", "board a=box 1 1 7",
            "outline a=cell 0 0-cell 0 0;"};
        int[] faults = {0, 0, 0, 10014, 60018, 10005, 10015, 10017, 70008};
        for (int first = 0; first < texts.length; first++) {
            QuarterBoards x = new QuarterBoards();
            for (int i = 0; i < 4; i++) {
                T.due("read of " + texts[first], Harness.faultOf(x, texts[first]), faults[first]);
            }
            for (int next = 0; next < texts.length; next++) {
                T.due("read of " + texts[next], Harness.faultOf(x, texts[next]), faults[next]);
            }
        }
    }

    private static String lastWord(String text) {
        int start = text.length();
        while (start > 0 && Character.isLetter(text.charAt(start - 1))) {
            start--;
        }
        return text.substring(start);
    }

    /** A part of a word is a NAME: where a UNIT may stand the text goes on with it, elsewhere it does not. */
    private static boolean isOpenWord(String text) {
        String word = lastWord(text);
        boolean isUnit = text.length() - word.length() >= 8;
        return !word.isEmpty() && !isUnit && !word.equals("board") && !word.equals("a");
    }

    // Terms II: "of one place the least:"
    private static void leastOfOnePlace() {
        // the 401st TOKEN, with which no text goes on
        T.fault(ALL_BUT_ONE + ";;", 1, ALL_BUT_ONE.length() + 1);
        T.fault(ALL_BUT_ONE + "+)", 1, ALL_BUT_ONE.length() + 1);
        T.fault(ALL_BUT_ONE + "+a", 2, ALL_BUT_ONE.length() + 1);
        // what is none, in the 401st TOKEN's place
        T.fault(ALL_BUT_ONE + ";?", 1, ALL_BUT_ONE.length() + 1);
        // behind a 9th board's first TOKEN its place is not asked any more
        String eight = Harness.eightAndSix();
        T.fault(eight + "board board", 2, eight.length());
        T.fault(eight + "boards", 1, eight.length());
    }

    // Terms II: "1 SYNTAX: a TOKEN, or what is none, with which no text goes on."
    private static void syntax() {
        T.fault("board a=cell 0 0 cell", 1, 17);
        T.fault("board a=cell 0 0 cellars", 1, 17);
        T.fault("board a=cell 0 0 #", 1, 17);
        T.fault("board a=cell 0 0;cell", 1, 17);
        // a text goes on with a wrong NAME or INT
        T.fault("board a=nowhere+cell 99 99", 1, 26);
    }

    // Terms II: "2 ROOM: a 401st TOKEN;"
    private static void roomForTokens() {
        right(ALL_BUT_ONE + ";");
        T.fault(ALL_BUT_ONE, 1, ALL_BUT_ONE.length());
        T.fault(ALL_BUT_ONE + "+", 1, ALL_BUT_ONE.length() + 1);
        T.fault(ALL_BUT_ONE + ";  board", 2, ALL_BUT_ONE.length() + 3);
        T.fault(ALL_BUT_ONE + ";board ?", 2, ALL_BUT_ONE.length() + 1);
        // 401, but for its length a text without FAULT
        String one = "board a=cell 0 0;board b=turn a" + "+a".repeat(194);
        T.fault(one + ";", 2, one.length());
        T.fault("board a=" + "turn ".repeat(393) + "cell 0 0;", 0, 0);
        T.fault("board a=" + "turn ".repeat(394) + "cell 0 0;", 2, 8 + 5 * 394 + 8);
        // the words are all done, the last one first: 393 turns are one
        T.due("393 turns", Harness.house("board a=" + "turn ".repeat(393) + "cell 0 0;").has(false, 0, 28), 1);
    }

    // Terms II: "a 9th board, a 7th outline (at its first TOKEN);"
    private static void roomForBoards() {
        String text = Harness.eightAndSix();
        right(text);
        T.fault(text + " board x=ba;", 2, text.length() + 1);
        String eight = "board x=cell 0 0;" + "outline o=x;" + boards(7);
        right(eight);
        T.fault(eight + "board n=x;", 2, eight.length());
        right(eight + "outline n=x;");
    }

    // Terms II: "a 9th board, a 7th outline (at its first TOKEN);"
    private static void roomForOutlines() {
        String text = Harness.eightAndSix();
        T.fault(text + " outline x=ba;", 2, text.length() + 1);
        String six = "outline x=cell 0 0;board b=x;outline c=x;outline d=x;outline e=x;outline f=x;outline g=x;";
        right(six);
        T.fault(six + "outline n=x;", 2, six.length());
        right(six + "board n=x;");
    }

    private static String boards(int many) {
        StringBuilder text = new StringBuilder();
        for (int i = 0; i < many; i++) {
            text.append("board y").append((char) ('a' + i)).append("=x;");
        }
        return text.toString();
    }

    // Terms II: "a 7th ( within one another (at it)."
    private static void roomForBrackets() {
        right("board a=((((((cell 0 0))))));");
        T.fault("board a=(((((((cell 0 0)))))));", 2, 14);
        // side by side they are not within one another
        right("board a=(cell 0 0)" + "+(cell 0 0)".repeat(20) + ";");
        right("board a=((((((cell 0 0))))))-((((((cell 1 0))))));board b=((((((a))))));");
        right("board a=(turn(flip(base(shift 0 0((cell 0 0))))));");
        T.fault("board a=((((((cell 0 0)+(cell 0 0)))+(((cell 0 0+(cell 0 0))", 2, 49);
        T.fault("board a=((((((cell 0 0)))+((((cell 0 0", 2, 29);
        T.fault("board a=((((((cell 0 0))))));board b=((((((turn(", 2, 47);
    }

    // Terms II: "If there is none, likewise:"
    private static void roundTwo() {
        T.fault("board a=b+cell 8 0;board c=?", 1, 27);
        T.fault("board a=b;board a=(((((((", 2, 24);
        T.fault("board a=cell 0 0;board a=cell 0 0", 1, 33);
        T.fault("board a=cell 9 0;" + Harness.eightAndSix(), 2, 17 + Harness.eightAndSix().indexOf("board bh"));
    }

    // Terms II: "3 TWICE: a NAME told already."
    private static void twice() {
        T.fault("board a=cell 0 0;board a=cell 0 0;", 3, 23);
        T.fault("board a=cell 0 0;outline a=cell 0 0;", 3, 25);
        T.fault("outline a=cell 0 0;board a=cell 0 0;", 3, 25);
        T.fault("outline a=cell 0 0;outline a=a;", 3, 27);
        right("board a=cell 0 0;board aa=cell 0 0;board aaa=cell 0 0;");
        String text = Harness.eightAndSix();
        T.fault(text.replace("outline of", "outline ba"), 3, text.indexOf("of="));
        T.fault(text.replace("outline of", "outline oe"), 3, text.indexOf("of="));
    }

    // Terms II: "4 NAME: none such."
    private static void unknownName() {
        T.fault("board a=b;", 4, 8);
        T.fault("board abcdefgh=cell 0 0;board b=abcdefg;", 4, 32);
        T.fault("board abcdefg=cell 0 0;board b=abcdefgh;", 4, 31);
        right(Harness.eightAndSix().replace("outline of=ba;", "outline of=oe&bh;"));
    }

    // Terms II: "5 WRONG: an INT that is none such: x, y above 7,"
    private static void wrongXY() {
        for (String unit : new String[] {"cell @ #", "box @ # 1 1", "half @ # 0", "quarter @ # 0"}) {
            int x = 8 + unit.indexOf('@');
            right("board a=" + unit.replace("@", "7").replace("#", "7") + ";");
            for (String beyond : new String[] {"8", "08", "10", "99"}) {
                T.fault("board a=" + unit.replace("@", beyond).replace("#", "0") + ";", 5, x);
                T.fault("board a=" + unit.replace("@", "0").replace("#", beyond) + ";", 5, x + 2);
            }
        }
    }

    // Terms II: "w, h 0 or beyond the GRID (at that INT),"
    private static void wrongSides() {
        for (int from = 0; from < 8; from++) {
            for (int side = 0; side <= 9; side++) {
                boolean fits = side > 0 && from + side <= 8;
                T.fault("board a=box " + from + " 0 " + side + " 1;", fits ? 0 : 5, 16);
                T.fault("board a=box 0 " + from + " 1 " + side + ";", fits ? 0 : 5, 18);
            }
        }
        T.fault("board a=box 0 0 00 1;", 5, 16);
        T.fault("board a=box 0 0 0 0;", 5, 16);
        T.fault("board a=box 0 0 99 99;", 5, 16);
        // x bounds w, y bounds h, not the other way round
        right("board a=box 0 7 8 1;");
        right("board a=box 7 0 1 8;");
        T.fault("board a=box 1 0 8 1;", 5, 16);
        T.fault("board a=box 0 1 1 8;", 5, 18);
    }

    // Terms II: "d above 3,"
    private static void wrongDirections() {
        right("board a=half 0 0 3;board b=quarter 0 0 3;");
        for (String beyond : new String[] {"4", "04", "7", "99"}) {
            T.fault("board a=half 0 0 " + beyond + ";", 5, 17);
            T.fault("board a=quarter 0 0 " + beyond + ";", 5, 20);
        }
    }

    // Terms II: "a shift's above 7."
    private static void wrongShifts() {
        right("board a=shift 7 7 cell 0 0;");
        right("board a=shift -7 -7 cell 7 7;");
        for (String beyond : new String[] {"8", "08", "99"}) {
            T.fault("board a=shift " + beyond + " 0 cell 0 0;", 5, 14);
            T.fault("board a=shift -" + beyond + " 0 cell 0 0;", 5, 15);
            T.fault("board a=shift 0 " + beyond + " cell 0 0;", 5, 16);
            T.fault("board a=shift 0 - " + beyond + " cell 0 0;", 5, 18);
        }
    }

    // Terms II: "If there is none, the first of these that comes, one E behind the other, each from left to right
    // (brackets ahead of what is around):"
    private static void roundThree() {
        T.fault("board a=shift 1 0 cell 7 0;board b=cell 8 0;", 5, 40);
        T.fault("board a=cell 0 0-cell 0 0;board b=c;", 4, 34);
        T.fault("board a=cell 0 0-cell 0 0;board a=cell 0 0;", 3, 32);
        T.fault("board a=shift 1 0 cell 7 0;board b=cell 0 0-cell 0 0;", 6, 8);
        T.fault("board a=cell 0 0-cell 0 0;board b=shift 1 0 cell 7 0;", 7, 6);
        // of one E an OFF comes ahead of EMPTY, although the NAME stands ahead of it
        T.fault("board a=cell 0 0-cell 0 0-shift 1 0 cell 7 0;", 6, 26);
        T.fault("board a=shift 1 0 cell 7 0+shift 0 1 cell 0 7;", 6, 8);
        T.fault("board a=shift 1 0 cell 6 0+shift 0 1 cell 0 7;", 6, 27);
    }

    // Terms II: "(brackets ahead of what is around)"
    private static void bracketsAhead() {
        T.fault("board a=shift 1 0 (cell 7 0+shift 0 1 cell 0 7);", 6, 28);
        T.fault("board a=shift 1 0 (cell 7 0+(shift 0 1 cell 0 6));", 6, 8);
        // the last word is done first
        T.fault("board a=shift 1 0 shift 0 1 cell 7 7;", 6, 18);
        T.fault("board a=shift 1 0 shift -1 0 cell 7 7;", 0, 0);
        T.fault("board a=shift -1 0 shift 1 0 cell 7 7;", 6, 19);
        T.fault("board a=shift 1 0 (cell 7 7)+(shift 0 1 cell 7 7);", 6, 8);
    }

    // Terms II: "6 OFF: a shift (at that word)."
    // Terms I: "SHIFT by a, b: x, y to x + a, y + b; a SHAPE of which some CELL is none then goes OFF."
    private static void off() {
        for (int by = 0; by <= 7; by++) {
            boolean stays = by <= 2;
            String box = "box 2 2 4 4;";
            T.fault("board a=shift " + by + " 0 " + box, stays ? 0 : 6, 8);
            T.fault("board a=shift -" + by + " 0 " + box, stays ? 0 : 6, 8);
            T.fault("board a=shift 0 " + by + " " + box, stays ? 0 : 6, 8);
            T.fault("board a=shift 0 -" + by + " " + box, stays ? 0 : 6, 8);
            T.fault("outline a=turn  shift -" + by + " -" + by + " " + box, stays ? 0 : 6, 16);
        }
        // one CELL is enough
        T.fault("board a=shift 1 0 (cell 0 0+quarter 7 3 3);", 6, 8);
        T.fault("board a=shift 0 0 box 0 0 8 8;", 0, 0);
        T.fault("board a=shift 1 0 box 0 0 8 8;", 6, 8);
        // whichever QUARTER of a CELL it is
        for (int d = 0; d < 4; d++) {
            T.fault("board a=shift 1 0 quarter 7 3 " + d + ";", 6, 8);
            T.fault("board a=shift -1 0 quarter 0 3 " + d + ";", 6, 8);
            T.fault("board a=shift 0 1 quarter 3 7 " + d + ";", 6, 8);
            T.fault("board a=shift 0 -1 quarter 3 0 " + d + ";", 6, 8);
        }
        // a row does not go on in the next one
        QuarterBoards x = Harness.house("board a=shift 7 0 quarter 0 3 3;");
        T.due("at the rim", x.has(false, 0, 4 * (8 * 3 + 7) + 3), 1);
        // by what else it would go OFF: TURN, FLIP and BASE never do
        right("board a=turn flip base turn box 0 0 8 8;");
    }

    // Terms I: "a SHAPE of which some CELL is none then goes OFF."
    private static void nothingGoesOff() {
        // without QUARTERS it has no CELL that could be none
        right("board a=cell 0 0+shift 7 7 (cell 7 7-cell 7 7);");
        right("board a=cell 0 0+base turn flip shift -7 -7 (cell 0 0&cell 7 7);");
        T.fault("board a=shift 7 7 (cell 7 7-cell 7 7);", 7, 6);
    }

    // Terms II: "7 EMPTY: a board, an outline without QUARTERS (at its NAME)."
    private static void empty() {
        T.fault("board a=cell 0 0-cell 0 0;", 7, 6);
        T.fault("outline  ab=cell 0 0&cell 1 0;", 7, 9);
        T.fault("board a=cell 0 0;board b=a-a;", 7, 23);
        right("board a=cell 0 0-(half 0 0 0+quarter 0 0 2);");
        // of a part it is no FAULT
        right("board a=cell 0 0-cell 0 0+quarter 0 0 0;");
        right("board a=quarter 0 0 0+(cell 0 0-cell 0 0);");
    }

    private static QuarterBoards livedIn() {
        QuarterBoards x = Harness.house("board a=half 0 0 0;board b=half 0 0 2;outline o=cell 1 1;"
            + "outline p=half 4 4 2+half 5 4 1;");
        x.fill(0, 3);
        x.cut(0, 1);
        x.lay(0, 0, 1, 1);
        x.lay(1, 0, 1, 1);
        x.claim(2, 0, 3);
        return x;
    }

    // Terms II: "A text with a FAULT changes nothing;"
    private static void faultChangesNothing() {
        String[] texts = {"board z=cell 0 0;?", "board z=cell 0 0;board y=(((((((", "board z=cell 0 0;board z=z;",
            "board z=cell 0 0;board y=x;", "board z=cell 0 0;outline y=cell 8 0;",
            "board z=cell 0 0;outline y=shift 1 0 cell 7 0;", "board z=cell 0 0;outline y=z-z;"};
        for (int i = 0; i < texts.length; i++) {
            QuarterBoards x = livedIn();
            String before = Harness.state(x);
            T.due("read()", Harness.read(x, texts[i]), i + 1);
            T.unchanged("FAULT " + (i + 1), x, before);
            T.due("has", x.has(false, 0, 0) + x.has(false, 0, 2), 1);
            T.due("sets", x.sets(0), 1);
        }
    }

    // Terms II: "else its boards and outlines, each numbered from 0 on, are in place of those ahead, THE TABLE is
    // empty, all CLAIMS are gone, and nothing is remembered."
    private static void rightTextChangesAll() {
        QuarterBoards x = livedIn();
        T.due("sets", x.sets(1), 1);
        T.due("read()", Harness.read(x, "outline p=cell 7 7;outline q=box 0 0 2 1;board c=cell 3 3;"), 0);
        T.due("boards", x.count(0), 1);
        T.due("outlines", x.count(1), 2);
        T.due("a board of the text ahead", x.area(false, 1), -1);
        T.due("the new board", x.area(false, 0), 4);
        T.due("THE TABLE", x.count(2), 0);
        T.due("covers", x.covers(36), -2);
        T.due("clashes", x.clashes(), 0);
        T.due("shows", x.shows(), -2);
        T.due("lift", x.lift(0), false);
        T.due("CLAIMS", x.count(3), 0);
        T.due("verdict", x.verdict(0), -1);
        T.due("points", x.points(2, 0), 0);
        T.due("points by 1", x.points(2, 1), -1);
        T.due("a FILLING", x.filled(0, 0), -100);
        T.due("THE CUT", x.laid(0), -100);
        T.due("its PARTS", x.part(0), -1);
        T.due("which SETS FILL is asked anew", x.sets(1), 0);
        T.due("the first CLAIM", x.claim(0, 0, 1), 0);
        // all SETS of one board filled outline 0, and all outlines were a CELL: nothing of them is left
        QuarterBoards y = Harness.house(Harness.eightAndSix());
        T.due("sets", y.sets(0), 8);
        T.due("read()", Harness.read(y, "board a=cell 0 0;board b=quarter 0 0 0;outline o=quarter 3 3 3;"), 0);
        T.due("sets", y.sets(0), 1);
        T.due("set", y.set(0, 0), 2);
        T.due("needed", y.needed(0), 2);
        T.due("no such outline", y.sets(1), -1);
        y.lay(0, 0, 0, 0);
        T.due("no such outline is shown", y.shows(), -2);
    }

    // Terms II: "its boards and outlines, each numbered from 0 on,"
    private static void numberedFromNull() {
        QuarterBoards x = Harness.house("outline a=quarter 0 0 0;board b=half 0 0 0;outline c=cell 0 0;"
            + "board d=cell 0 0-quarter 0 0 0;board e=box 0 0 2 1;");
        int[] boards = {2, 3, 8, -1};
        int[] outlines = {1, 4, -1, -1};
        for (int k = 0; k < 4; k++) {
            T.due("area of board " + k, x.area(false, k), boards[k]);
            T.due("area of outline " + k, x.area(true, k), outlines[k]);
        }
    }
}
