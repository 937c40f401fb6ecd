/** The edges of promises 1 to 5 and 33: a new object, the tape, read, place and count. */
public final class TapeEdgeTest {
    private static final Harness T = new Harness("TapeEdgeTest");
    private static final int BLANKS = 0x20202020;
    private static final String RIGHT = "board a=cell 0 0;outline o=cell 1 1;";

    public static void main(String[] args) {
        lastCall();
        laterCalls();
        newObject();
        orderOfBytes();
        behindTheTape();
        lastFeedTaken();
        refusedFeed();
        lastBytesGo();
        refusedBack();
        numbersOfFaults();
        emptyBehindRead();
        emptyTape();
        place();
        placeWithout();
        counts();
        fullCounts();
        otherCounts();
        T.finish();
    }

    private static int feedBlanks(QuarterBoards x) {
        return x.feed(BLANKS, BLANKS, BLANKS, BLANKS, BLANKS);
    }

    /** Twenty blanks, of which one is another sign. */
    private static int feedWith(QuarterBoards x, int at, int sign) {
        int[] fours = {BLANKS, BLANKS, BLANKS, BLANKS, BLANKS};
        int shift = 24 - 8 * (at % 4);
        fours[at / 4] = fours[at / 4] & ~(255 << shift) | sign << shift;
        return x.feed(fours[0], fours[1], fours[2], fours[3], fours[4]);
    }

    // What it is: "An object is used for at most 512 calls after it has been made"
    private static void lastCall() {
        QuarterBoards x = new QuarterBoards();
        for (int call = 1; call <= 511; call++) {
            boolean feeds = call % 2 == 1;
            T.due("call " + call, feeds ? feedBlanks(x) : x.back(20), feeds ? 20 : 0);
        }
        T.due("the 512th call", x.count(4), 20);
    }

    // What it is: "what later calls answer is free."
    // LANGUAGE 7: they may not throw all the same.
    private static void laterCalls() {
        QuarterBoards x = Harness.house(RIGHT);
        for (int call = 0; call < 1200; call++) {
            feedBlanks(x);
            x.lay(0, call % 9, call % 10 - 1, 0);
            x.claim(call % 7, call % 3, call % 4);
        }
        T.due("it came so far", true, true);
    }

    // Promise 1: "No boards, outlines; an empty TABLE."
    private static void newObject() {
        QuarterBoards other = Harness.house(RIGHT);
        other.lay(0, 0, 0, 0);
        QuarterBoards x = new QuarterBoards();
        T.due("boards", x.count(0), 0);
        T.due("outlines", x.count(1), 0);
        T.due("LAYS", x.count(2), 0);
        T.due("area of board 0", x.area(false, 0), -1);
        T.due("area of outline 0", x.area(true, 0), -1);
        T.due("lay of board 0", x.lay(0, 0, 0, 0), -1);
        T.due("lift of board 0", x.lift(0), false);
        for (int quarter = 0; quarter < 256; quarter++) {
            T.due("covers(" + quarter + ")", x.covers(quarter), -2);
        }
    }

    // Promise 2: "Twenty bytes, the highest of a first, come behind the tape: how many it has."
    private static void orderOfBytes() {
        for (int at = 0; at < 20; at++) {
            for (int sign : new int[] {'?', 0, 127, 128, 255}) {
                QuarterBoards x = new QuarterBoards();
                T.due("feed", feedWith(x, at, sign), 20);
                T.due("read() of the byte " + sign, x.read(), 1);
                T.due("place() of the byte " + at, x.place(), at);
            }
        }
    }

    // Promise 2: "come behind the tape: how many it has."
    private static void behindTheTape() {
        QuarterBoards x = new QuarterBoards();
        for (int i = 1; i <= 3; i++) {
            T.due("feed " + i, i == 3 ? feedWith(x, 7, '?') : feedBlanks(x), 20 * i);
        }
        x.read();
        T.due("place()", x.place(), 47);
    }

    // Terms II: "A TEXT has 2,000 bytes at most."
    private static void lastFeedTaken() {
        QuarterBoards x = new QuarterBoards();
        for (int i = 1; i < 100; i++) {
            feedBlanks(x);
        }
        T.due("the tape ahead of the last feed", x.count(4), 1980);
        T.due("the last feed", feedWith(x, 19, '?'), 2000);
        T.due("read()", x.read(), 1);
        T.due("the last byte", x.place(), 1999);
    }

    // Promise 2: "NONE, and nothing comes, if it would have more than 2,000."
    private static void refusedFeed() {
        for (int gone = 0; gone <= 20; gone++) {
            QuarterBoards x = new QuarterBoards();
            Harness.feed(x, RIGHT + " ".repeat(1980 - RIGHT.length()));
            feedBlanks(x);
            x.back(gone);
            T.due("feed at " + (2000 - gone), feedWith(x, 0, '?'), gone == 20 ? 2000 : -1);
            T.due("bytes at " + (2000 - gone), x.count(4), gone == 20 ? 2000 : 2000 - gone);
            T.due("read() at " + (2000 - gone), x.read(), gone == 20 ? 1 : 0);
        }
    }

    // Promise 3: "The last n bytes of the tape go: how many it has."
    private static void lastBytesGo() {
        QuarterBoards x = new QuarterBoards();
        Harness.feed(x, RIGHT + "?");
        T.due("back(0)", x.back(0), RIGHT.length() + 1);
        T.due("back(1)", x.back(1), RIGHT.length());
        T.due("read()", x.read(), 0);
        Harness.feed(x, "?" + RIGHT);
        T.due("all but the first", x.back(RIGHT.length()), 1);
        T.due("feed behind what is left", feedBlanks(x), 21);
        x.read();
        T.due("the first one is still there", x.place(), 0);
        feedBlanks(x);
        T.due("all of them", x.back(20), 0);
        T.due("none of none", x.back(0), 0);
    }

    // Promise 3: "NONE, and nothing goes, if it has not so many, or n is below 0."
    private static void refusedBack() {
        QuarterBoards x = new QuarterBoards();
        T.due("back(1) of an empty tape", x.back(1), -1);
        Harness.feed(x, RIGHT);
        int length = RIGHT.length();
        for (int n : new int[] {length + 1, 2000, Integer.MAX_VALUE, -1, -20, Integer.MIN_VALUE}) {
            T.due("back(" + n + ")", x.back(n), -1);
            T.due("nothing goes", x.count(4), length);
        }
        T.due("the text is still whole", x.read(), 0);
        for (int i = 0; i < 100; i++) {
            feedBlanks(x);
        }
        T.due("back(2001)", x.back(2001), -1);
        T.due("back(2000)", x.back(2000), 0);
    }

    // Promise 4: "The tape, which is empty then, is read: 0, or the number of its FAULT."
    private static void numbersOfFaults() {
        String[] texts = {RIGHT, "board", "board a=(((((((cell 0 0)))))));", "board a=cell 0 0;board a=cell 0 0;",
            "board a=b;", "board a=cell 8 0;", "board a=shift 1 0 cell 7 0;", "board a=cell 0 0-cell 0 0;"};
        QuarterBoards x = new QuarterBoards();
        for (int number = 0; number < texts.length; number++) {
            T.due("read()", Harness.read(x, texts[number]), number);
            T.due("bytes behind FAULT " + number, x.count(4), 0);
        }
    }

    // Promise 4: "The tape, which is empty then"
    private static void emptyBehindRead() {
        QuarterBoards x = new QuarterBoards();
        T.due("a FAULT", Harness.read(x, "???"), 1);
        T.due("nothing of it is left", Harness.read(x, RIGHT), 0);
        T.due("a text without FAULT", x.count(0), 1);
        T.due("nothing of it is left", x.back(1), -1);
    }

    // Terms II: "text: {('board' | 'outline') NAME '=' E ';'}."
    private static void emptyTape() {
        QuarterBoards x = new QuarterBoards();
        T.due("an empty tape", x.read(), 0);
        T.due("place()", x.place(), -1);
        T.due("a text", Harness.read(x, RIGHT), 0);
        T.due("boards", x.count(0), 1);
        T.due("an empty tape", x.read(), 0);
        T.due("no boards", x.count(0), 0);
        T.due("no outlines", x.count(1), 0);
        T.due("blanks alone", Harness.read(x, " ".repeat(2000)), 0);
    }

    // Promise 5: "The byte of the latest read()'s FAULT"
    private static void place() {
        QuarterBoards x = new QuarterBoards();
        Harness.read(x, "?");
        T.due("the first byte", x.place(), 0);
        T.due("asked again", x.place(), 0);
        Harness.read(x, " ".repeat(1999) + "?");
        T.due("the last byte", x.place(), 1999);
        Harness.feed(x, RIGHT);
        x.back(Integer.MAX_VALUE);
        T.due("it is the latest read()'s until the next one", x.place(), 1999);
        x.read();
        Harness.read(x, "board a=cell 0 0" + " ".repeat(1984));
        T.due("the end of the longest text", x.place(), 2000);
    }

    // Promise 5: "NONE without."
    private static void placeWithout() {
        QuarterBoards x = new QuarterBoards();
        T.due("ahead of any read()", x.place(), -1);
        Harness.read(x, "board");
        T.due("with a FAULT", x.place(), 5);
        Harness.read(x, RIGHT);
        T.due("without one", x.place(), -1);
    }

    // Promise 33: "0 boards, 1 outlines, 2 LAYS on THE TABLE, 3 CLAIMS and VOIDS, 4 bytes on the tape."
    private static void counts() {
        QuarterBoards x = Harness.house("board a=cell 0 0;board b=cell 0 0;board c=a;board d=a;board e=a;"
            + "outline f=a;outline g=a;outline h=a;outline i=a;");
        x.lay(4, 0, 0, 0);
        x.lay(1, 0, 0, 0);
        x.claim(0, 0, 1);
        x.annul(0);
        x.annul(0);
        Harness.feed(x, "?");
        for (int what = 0; what <= 4; what++) {
            T.due("count(" + what + ")", x.count(what), new int[] {5, 4, 2, 3, 1}[what]);
        }
    }

    // Promise 33: "0 boards, 1 outlines, 2 LAYS on THE TABLE, 3 CLAIMS and VOIDS, 4 bytes on the tape."
    private static void fullCounts() {
        QuarterBoards x = Harness.house(Harness.eightAndSix());
        for (int board = 0; board < 8; board++) {
            x.lay(board, 0, 0, 0);
        }
        for (int i = 0; i < 30; i++) {
            x.claim(0, 0, 1);
            x.annul(2 * i);
        }
        for (int i = 0; i < 100; i++) {
            feedBlanks(x);
        }
        for (int what = 0; what <= 4; what++) {
            T.due("count(" + what + ")", x.count(what), new int[] {8, 6, 8, 60, 2000}[what]);
        }
    }

    // Promise 33: "NONE for others."
    private static void otherCounts() {
        QuarterBoards x = Harness.house(RIGHT);
        for (int what : new int[] {-1, 5, Integer.MAX_VALUE, Integer.MIN_VALUE}) {
            T.due("count(" + what + ")", x.count(what), -1);
        }
    }
}
