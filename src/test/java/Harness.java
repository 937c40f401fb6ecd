/** What all tests of the project share: counting wrong answers and putting a text on the tape. */
final class Harness {
    private final String test;
    private int asked = 0;
    private int wrong = 0;

    Harness(String test) {
        this.test = test;
    }

    void due(String call, long got, long want) {
        asked++;
        if (got != want) {
            wrong++;
            if (wrong <= 40) {
                System.out.println(test + ": " + call + " answered " + got + ", due is " + want);
            }
        }
    }

    void due(String call, boolean got, boolean want) {
        due(call, got ? 1 : 0, want ? 1 : 0);
    }

    void due(String call, String got, String want) {
        due(call + (got.equals(want) ? "" : ": " + got + ", due is " + want), got.equals(want), true);
    }

    /** A text read by a new object: a FAULT's number and place; number 0 is none. */
    void fault(String text, int number, int place) {
        due("read of " + text, faultOf(new QuarterBoards(), text), number == 0 ? 0 : 10000 * number + place);
    }

    /** All calls that name a wrong one must leave the house as it was; see state(). */
    void unchanged(String call, QuarterBoards x, String before) {
        due("what is seen behind " + call, state(x), before);
    }

    boolean hasWrong() {
        return wrong > 0;
    }

    void finish() {
        System.out.println(test + ": " + asked + " answers, " + wrong + " wrong");
        if (wrong > 0 || asked == 0) {
            System.exit(1);
        }
    }

    /** Puts a text behind what is on the tape; the blanks that fill up the last 20 bytes go again. */
    static int feed(QuarterBoards x, String text) {
        int length = (text.length() + 19) / 20 * 20;
        int[] bytes = new int[length];
        for (int i = 0; i < length; i++) {
            bytes[i] = i < text.length() ? text.charAt(i) & 255 : 32;
        }
        int answer = x.count(4);
        for (int i = 0; i < length; i += 20) {
            answer = x.feed(four(bytes, i), four(bytes, i + 4), four(bytes, i + 8),
                four(bytes, i + 12), four(bytes, i + 16));
        }
        return answer < 0 ? answer : x.back(length - text.length());
    }

    private static int four(int[] bytes, int i) {
        return bytes[i] << 24 | bytes[i + 1] << 16 | bytes[i + 2] << 8 | bytes[i + 3];
    }

    static int read(QuarterBoards x, String text) {
        feed(x, text);
        return x.read();
    }

    static QuarterBoards house(String text) {
        QuarterBoards x = new QuarterBoards();
        int fault = read(x, text);
        if (fault != 0) {
            System.out.println("a test's text has the fault " + fault + " at " + x.place() + ": " + text);
            System.exit(1);
        }
        return x;
    }

    /** As many boards and outlines as there may be, each one CELL. */
    static String eightAndSix() {
        StringBuilder text = new StringBuilder("board ba=cell 0 0;");
        for (int i = 1; i < 8; i++) {
            text.append("board b").append((char) ('a' + i)).append("=ba;");
        }
        for (int i = 0; i < 6; i++) {
            text.append("outline o").append((char) ('a' + i)).append("=ba;");
        }
        return text.toString();
    }

    /** A fault's number and its place in one number, so that a test asks both at once. */
    static int faultOf(QuarterBoards x, String text) {
        int fault = read(x, text);
        return fault == 0 ? (x.place() == -1 ? 0 : -7) : 10000 * fault + x.place();
    }

    /** What some ninety calls tell of a house, so that a test sees whether a refused call changed it. */
    static String state(QuarterBoards x) {
        StringBuilder seen = new StringBuilder();
        for (int what = 0; what <= 4; what++) {
            seen.append(x.count(what)).append(' ');
        }
        seen.append(x.steps()).append(' ').append(x.shows()).append(' ').append(x.clashes()).append(" | ");
        for (int k = 0; k < 8; k++) {
            seen.append(x.area(false, k)).append(' ').append(k < 6 ? x.area(true, k) : -1).append(' ');
            seen.append(x.filled(k, 0)).append(' ').append(x.filled(k, 1)).append(' ').append(x.filled(k, 2)).append(", ");
        }
        seen.append("| ").append(x.laid(0)).append(' ').append(x.laid(1)).append(' ').append(x.laid(2)).append(" | ");
        for (int quarter = 0; quarter < 4; quarter++) {
            seen.append(x.part(quarter)).append(' ').append(x.covers(36 + quarter)).append(", ");
        }
        int entries = x.count(3);
        for (int i = Math.max(0, entries - 6); i < entries; i++) {
            seen.append(x.verdict(i)).append(' ').append(x.first(i, entries)).append(", ");
        }
        for (int player = 0; player < 6; player++) {
            seen.append(x.points(player, entries)).append(' ');
        }
        return seen.toString();
    }
}
