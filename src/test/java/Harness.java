/** What all tests of the project share: counting wrong answers and putting a text on the tape. */
final class Harness {
    private final String test;
    private int asked = 0;
    private int wrong = 0;

    Harness(String test) {
        this.test = test;
    }

    void due(String call, long got, long want) {
        asked++;
        if (got != want) {
            wrong++;
            if (wrong <= 40) {
                System.out.println(test + ": " + call + " answered " + got + ", due is " + want);
            }
        }
    }

    void due(String call, boolean got, boolean want) {
        due(call, got ? 1 : 0, want ? 1 : 0);
    }

    boolean hasWrong() {
        return wrong > 0;
    }

    void finish() {
        System.out.println(test + ": " + asked + " answers, " + wrong + " wrong");
        if (wrong > 0 || asked == 0) {
            System.exit(1);
        }
    }

    /** Puts a text behind what is on the tape; the blanks that fill up the last 20 bytes go again. */
    static int feed(QuarterBoards x, String text) {
        int length = (text.length() + 19) / 20 * 20;
        int[] bytes = new int[length];
        for (int i = 0; i < length; i++) {
            bytes[i] = i < text.length() ? text.charAt(i) & 255 : 32;
        }
        int answer = x.count(4);
        for (int i = 0; i < length; i += 20) {
            answer = x.feed(four(bytes, i), four(bytes, i + 4), four(bytes, i + 8),
                four(bytes, i + 12), four(bytes, i + 16));
        }
        return answer < 0 ? answer : x.back(length - text.length());
    }

    private static int four(int[] bytes, int i) {
        return bytes[i] << 24 | bytes[i + 1] << 16 | bytes[i + 2] << 8 | bytes[i + 3];
    }

    static int read(QuarterBoards x, String text) {
        feed(x, text);
        return x.read();
    }

    static QuarterBoards house(String text) {
        QuarterBoards x = new QuarterBoards();
        int fault = read(x, text);
        if (fault != 0) {
            System.out.println("a test's text has the fault " + fault + " at " + x.place() + ": " + text);
            System.exit(1);
        }
        return x;
    }

    /** A fault's number and its place in one number, so that a test asks both at once. */
    static int faultOf(QuarterBoards x, String text) {
        int fault = read(x, text);
        return fault == 0 ? (x.place() == -1 ? 0 : -7) : 10000 * fault + x.place();
    }
}
