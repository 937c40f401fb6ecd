/**
 * A house of boards cut from quarters of squares. The document's promises 1 to 33 say what each
 * public method answers; the words in capitals in the comments are the document's terms.
 */
public final class QuarterBoards {
    public static final int NONE = -1;

    private static final int NOT_SO = -2;
    private static final int UNTOLD = -100;

    private static final int SIDE = 8;
    private static final int QUARTERS = 256;
    private static final int ALL_IMAGES = 8;
    private static final int MOST_BOARDS = 8;
    private static final int MOST_OUTLINES = 6;
    private static final int MOST_BYTES = 2000;
    private static final int FED_BYTES = 20;
    private static final int PLAYERS = 6;

    private final byte[] tape = new byte[MOST_BYTES];
    private int tapeLength = 0;
    private int faultPlace = NONE;

    private final Syntax syntax = new Syntax();
    private final Meaning meaning = new Meaning();
    private final Builder builder = new Builder();
    private final Tokens tokens = builder.tokens;

    private final Filler filler = new Filler();
    private final Form[] boards = filler.boards;
    private final Form[] outlines = new Form[MOST_OUTLINES];
    private int boardCount = 0;
    private int outlineCount = 0;

    private final Measure measure = new Measure();
    private final Cutter cutter = new Cutter();
    private final Table table = new Table();
    private final Book book = new Book();
    private final Shape covered = new Shape();

    public QuarterBoards() {
        for (int k = 0; k < MOST_OUTLINES; k++) {
            outlines[k] = new Form();
        }
    }

    public int feed(int a, int b, int c, int d, int e) {
        if (tapeLength + FED_BYTES > MOST_BYTES) {
            return NONE;
        }
        appendBytes(a);
        appendBytes(b);
        appendBytes(c);
        appendBytes(d);
        appendBytes(e);
        return tapeLength;
    }

    public int back(int n) {
        if (n < 0 || n > tapeLength) {
            return NONE;
        }
        tapeLength -= n;
        return tapeLength;
    }

    public int read() {
        tokens.scan(tape, tapeLength);
        tapeLength = 0;
        syntax.check(tokens);
        if (tokens.fault == 0) {
            meaning.check(tokens);
        }
        if (tokens.fault == 0) {
            builder.build();
        }
        faultPlace = tokens.faultPlace;
        if (tokens.fault == 0) {
            takeOver();
        }
        return tokens.fault;
    }

    public int place() {
        return faultPlace;
    }

    public int area(boolean outline, int k) {
        Form form = formOf(outline, k);
        return form == null ? NONE : form.size;
    }

    public int has(boolean outline, int k, int quarter) {
        Form form = formOf(outline, k);
        if (form == null || !isQuarter(quarter)) {
            return NONE;
        }
        return form.told.holds(quarter) ? 1 : 0;
    }

    public int pieces(boolean outline, int k) {
        Form form = formOf(outline, k);
        return form == null ? NONE : measure.countPieces(form.told);
    }

    public int corners(boolean outline, int k, boolean inward) {
        Form form = formOf(outline, k);
        return form == null ? NONE : measure.countCorners(form.told, inward);
    }

    public int bulges(boolean outline, int k) {
        Form form = formOf(outline, k);
        if (form == null) {
            return NONE;
        }
        return measure.isOnePiece(form.told) && measure.countCorners(form.told, true) == 0 ? 1 : 0;
    }

    public int images(boolean outline, int k) {
        Form form = formOf(outline, k);
        return form == null ? NONE : form.countDifferent();
    }

    public int least(boolean outline, int k, int g) {
        Form form = formOf(outline, k);
        if (form == null || !isImage(g)) {
            return NONE;
        }
        return form.lowest[g];
    }

    public int alike(int one, int other) {
        Form from = formOf(true, one);
        Form to = formOf(true, other);
        if (from == null || to == null) {
            return NONE;
        }
        return from.imageThatIs(to.base());
    }

    public int shows() {
        table.unite(covered);
        if (covered.isNothing()) {
            return NOT_SO;
        }
        covered.moveToBase();
        for (int k = 0; k < outlineCount; k++) {
            if (outlines[k].imageThatIs(covered) >= 0) {
                return k;
            }
        }
        return NOT_SO;
    }

    public int fill(int outline, int set) {
        filler.forget();
        Form form = formOf(true, outline);
        if (form == null || !isSet(set)) {
            return NONE;
        }
        return filler.countAll(form, set);
    }

    public int filled(int board, int what) {
        return filler.tellRemembered(board, what);
    }

    public int steps() {
        return filler.countedSteps;
    }

    public int sets(int outline) {
        Form form = formOf(true, outline);
        return form == null ? NONE : filler.countSets(outline, form, boardCount);
    }

    public int set(int outline, int i) {
        Form form = formOf(true, outline);
        if (form == null || i < 0) {
            return NONE;
        }
        int many = filler.countSets(outline, form, boardCount);
        if (many < 0) {
            return NOT_SO;
        }
        return i < many ? filler.setAt(outline, i) : NONE;
    }

    public int needed(int outline) {
        Form form = formOf(true, outline);
        if (form == null) {
            return NONE;
        }
        int many = filler.countSets(outline, form, boardCount);
        if (many < 0) {
            return NOT_SO;
        }
        return many == 0 ? NONE : filler.inAllSets(outline);
    }

    public int cut(int one, int other) {
        cutter.forget();
        Form from = formOf(true, one);
        Form to = formOf(true, other);
        if (from == null || to == null) {
            return NONE;
        }
        return cutter.look(from, to, measure);
    }

    public int part(int quarter) {
        return isQuarter(quarter) ? cutter.partOf(quarter) : NONE;
    }

    public int laid(int what) {
        return cutter.tellLaid(what);
    }

    public int lay(int board, int g, int a, int b) {
        Form form = formOf(false, board);
        if (form == null || !isImage(g) || table.holdsBoard(board) || !form.staysOn(g, a, b)) {
            return NONE;
        }
        table.put(board, form, g, a, b);
        return table.countLays();
    }

    public boolean lift(int board) {
        if (board < 0 || board >= MOST_BOARDS || !table.holdsBoard(board)) {
            return false;
        }
        table.take(board);
        return true;
    }

    public int covers(int quarter) {
        return isQuarter(quarter) ? table.boardOn(quarter) : NONE;
    }

    public int clashes() {
        return table.countClashes();
    }

    public int claim(int player, int outline, int set) {
        Form form = formOf(true, outline);
        if (book.isFull() || !isPlayer(player) || form == null || !isSet(set)) {
            return NONE;
        }
        int judged = table.judge(form.told, set);
        return book.enterClaim(player, outline, set, judged, table);
    }

    public int annul(int claim) {
        if (book.isFull() || !book.isClaim(claim)) {
            return NONE;
        }
        return book.enterVoid(claim);
    }

    public int verdict(int claim) {
        return book.isClaim(claim) ? book.verdicts[claim] : NONE;
    }

    public int first(int claim, int n) {
        if (!book.isClaim(claim) || n < 0 || n > book.entries || !book.isKnownRight(claim, n)) {
            return NONE;
        }
        return book.firstSame(claim, n);
    }

    public int points(int player, int n) {
        if (!isPlayer(player) || n < 0 || n > book.entries) {
            return NONE;
        }
        return book.countPoints(player, n);
    }

    public int count(int what) {
        switch (what) {
            case 0: return boardCount;
            case 1: return outlineCount;
            case 2: return table.countLays();
            case 3: return book.entries;
            case 4: return tapeLength;
            default: return NONE;
        }
    }

    private void appendBytes(int four) {
        for (int shift = 24; shift >= 0 && tapeLength < MOST_BYTES; shift -= 8) {
            tape[tapeLength] = (byte) (four >>> shift);
            tapeLength++;
        }
    }

    private void takeOver() {
        boardCount = 0;
        outlineCount = 0;
        for (int i = 0; i < builder.many; i++) {
            if (builder.asOutline[i] && outlineCount < MOST_OUTLINES) {
                outlines[outlineCount].tell(builder.made[i]);
                outlineCount++;
            } else if (!builder.asOutline[i] && boardCount < MOST_BOARDS) {
                boards[boardCount].tell(builder.made[i]);
                boardCount++;
            }
        }
        table.empty();
        book.empty();
        filler.forget();
        filler.forgetSets();
        cutter.forget();
    }

    private Form formOf(boolean outline, int k) {
        if (k < 0 || k >= (outline ? outlineCount : boardCount)) {
            return null;
        }
        return outline ? outlines[k] : boards[k];
    }

    private boolean isSet(int set) {
        return set > 0 && set < 1 << boardCount;
    }

    private static boolean isQuarter(int quarter) {
        return quarter >= 0 && quarter < QUARTERS;
    }

    private static boolean isImage(int g) {
        return g >= 0 && g < ALL_IMAGES;
    }

    private static boolean isPlayer(int player) {
        return player >= 0 && player < PLAYERS;
    }

    /**
     * A SHAPE: one int for each row of CELLS, four bits for each CELL from the left. QUARTER number
     * 32 * y + 4 * x + d is thus bit 4 * x + d of row y.
     */
    private static final class Shape {
        final int[] rows = new int[SIDE];

        void clear() {
            for (int y = 0; y < SIDE; y++) {
                rows[y] = 0;
            }
        }

        void copy(Shape other) {
            for (int y = 0; y < SIDE; y++) {
                rows[y] = other.rows[y];
            }
        }

        boolean holds(int quarter) {
            return quarter >= 0 && quarter < QUARTERS
                && (rows[quarter >> 5] >>> (quarter & 31) & 1) != 0;
        }

        void drop(int quarter) {
            if (quarter >= 0 && quarter < QUARTERS) {
                rows[quarter >> 5] &= ~(1 << (quarter & 31));
            }
        }

        int cell(int x, int y) {
            if (x < 0 || x >= SIDE || y < 0 || y >= SIDE) {
                return 0;
            }
            return rows[y] >>> 4 * x & 15;
        }

        void addCell(int x, int y, int quarters) {
            if (x >= 0 && x < SIDE && y >= 0 && y < SIDE) {
                rows[y] |= (quarters & 15) << 4 * x;
            }
        }

        void join(Shape other) {
            for (int y = 0; y < SIDE; y++) {
                rows[y] |= other.rows[y];
            }
        }

        void takeAway(Shape other) {
            for (int y = 0; y < SIDE; y++) {
                rows[y] &= ~other.rows[y];
            }
        }

        void keepCommon(Shape other) {
            for (int y = 0; y < SIDE; y++) {
                rows[y] &= other.rows[y];
            }
        }

        boolean isSame(Shape other) {
            for (int y = 0; y < SIDE; y++) {
                if (rows[y] != other.rows[y]) {
                    return false;
                }
            }
            return true;
        }

        boolean isNothing() {
            for (int y = 0; y < SIDE; y++) {
                if (rows[y] != 0) {
                    return false;
                }
            }
            return true;
        }

        int countQuarters() {
            int many = 0;
            for (int y = 0; y < SIDE; y++) {
                many += Integer.bitCount(rows[y]);
            }
            return many;
        }

        int lowestQuarter() {
            for (int y = 0; y < SIDE; y++) {
                if (rows[y] != 0) {
                    return 32 * y + Integer.bitCount(~rows[y] & (rows[y] - 1));
                }
            }
            return NONE;
        }

        int top() {
            for (int y = 0; y < SIDE; y++) {
                if (rows[y] != 0) {
                    return y;
                }
            }
            return SIDE;
        }

        int bottom() {
            for (int y = SIDE - 1; y >= 0; y--) {
                if (rows[y] != 0) {
                    return y;
                }
            }
            return NONE;
        }

        int left() {
            return leftmost(columns());
        }

        private static int leftmost(int all) {
            for (int x = 0; x < SIDE; x++) {
                if ((all >>> 4 * x & 15) != 0) {
                    return x;
                }
            }
            return SIDE;
        }

        int right() {
            int all = columns();
            for (int x = SIDE - 1; x >= 0; x--) {
                if ((all >>> 4 * x & 15) != 0) {
                    return x;
                }
            }
            return NONE;
        }

        private int columns() {
            int all = 0;
            for (int y = 0; y < SIDE; y++) {
                all |= rows[y];
            }
            return all;
        }

        boolean goesOff(int a, int b) {
            if (isNothing()) {
                return false;
            }
            return left() + a < 0 || right() + a >= SIDE || top() + b < 0 || bottom() + b >= SIDE;
        }

        void becomeTurned(Shape other) {
            clear();
            for (int y = 0; y < SIDE; y++) {
                for (int x = 0; x < SIDE; x++) {
                    int quarters = other.cell(x, y);
                    addCell(SIDE - 1 - y, x, quarters << 1 | quarters >>> 3);
                }
            }
        }

        void becomeFlipped(Shape other) {
            clear();
            for (int y = 0; y < SIDE; y++) {
                for (int x = 0; x < SIDE; x++) {
                    int quarters = other.cell(x, y);
                    int swapped = quarters & 5 | (quarters & 2) << 2 | (quarters & 8) >>> 2;
                    addCell(SIDE - 1 - x, y, swapped);
                }
            }
        }

        /** What would be beyond the GRID is dropped. */
        void becomeShifted(Shape other, int a, int b) {
            for (int y = 0; y < SIDE; y++) {
                int from = y - b;
                rows[y] = from >= 0 && from < SIDE ? slide(other.rows[from], a) : 0;
            }
        }

        void moveToBase() {
            int up = top();
            int leftward = leftmost(columns());
            for (int y = 0; y < SIDE; y++) {
                rows[y] = y + up < SIDE ? slide(rows[y + up], -leftward) : 0;
            }
        }

        static int slide(int row, int a) {
            if (a <= -SIDE || a >= SIDE) {
                return 0;
            }
            return a >= 0 ? row << 4 * a : row >>> -4 * a;
        }
    }

    /** A board or an outline: the SHAPE as it was told, with its eight IMAGES. */
    private static final class Form {
        final Shape told = new Shape();
        final Shape[] turned = new Shape[ALL_IMAGES];
        final int[] lowest = new int[ALL_IMAGES];
        final int[] width = new int[ALL_IMAGES];
        final int[] height = new int[ALL_IMAGES];
        final int[] leastSame = new int[ALL_IMAGES];
        int size = 0;

        Form() {
            for (int g = 0; g < ALL_IMAGES; g++) {
                turned[g] = new Shape();
            }
        }

        void tell(Shape shape) {
            told.copy(shape);
            size = shape.countQuarters();
            for (int g = 0; g < ALL_IMAGES; g++) {
                makeImage(g);
            }
        }

        private void makeImage(int g) {
            Shape image = turned[g];
            if (g == 0) {
                image.copy(told);
            } else if (g == 4) {
                image.becomeFlipped(told);
            } else {
                image.becomeTurned(turned[g - 1]);
            }
            image.moveToBase();
            lowest[g] = image.lowestQuarter();
            width[g] = image.right() + 1;
            height[g] = image.bottom() + 1;
            leastSame[g] = g;
            for (int h = g - 1; h >= 0; h--) {
                if (turned[h].isSame(image)) {
                    leastSame[g] = h;
                }
            }
        }

        Shape base() {
            return turned[0];
        }

        int countDifferent() {
            int many = 0;
            for (int g = 0; g < ALL_IMAGES; g++) {
                many += leastSame[g] == g ? 1 : 0;
            }
            return many;
        }

        int imageThatIs(Shape base) {
            for (int g = 0; g < ALL_IMAGES; g++) {
                if (turned[g].isSame(base)) {
                    return g;
                }
            }
            return NOT_SO;
        }

        /** An IMAGE touches the GRID's left and upper rim, so a LAY has no SHIFT below 0. */
        boolean staysOn(int g, int a, int b) {
            return a >= 0 && b >= 0 && a <= SIDE - width[g] && b <= SIDE - height[g];
        }
    }

    /** PIECES and CORNERS of SHAPES. */
    private static final class Measure {
        private static final int AROUND_CORNER = 8;
        private static final int AROUND_MIDDLE = 4;

        private final Shape open = new Shape();
        private final int[] queue = new int[QUARTERS];
        private int queued = 0;

        int countPieces(Shape shape) {
            open.copy(shape);
            int many = 0;
            for (int quarter = 0; quarter < QUARTERS; quarter++) {
                if (open.holds(quarter)) {
                    many++;
                    takePiece(quarter);
                }
            }
            return many;
        }

        boolean isOnePiece(Shape shape) {
            open.copy(shape);
            int start = open.lowestQuarter();
            if (start < 0) {
                return false;
            }
            takePiece(start);
            return open.isNothing();
        }

        private void takePiece(int start) {
            queued = 0;
            takeOpen(start);
            for (int i = 0; i < queued && i < QUARTERS; i++) {
                int quarter = queue[i];
                int cell = quarter & ~3;
                takeOpen(cell | (quarter + 1 & 3));
                takeOpen(cell | (quarter + 3 & 3));
                takeOpen(across(quarter));
            }
        }

        private void takeOpen(int quarter) {
            if (queued < QUARTERS && open.holds(quarter)) {
                open.drop(quarter);
                queue[queued] = quarter;
                queued++;
            }
        }

        private static int across(int quarter) {
            int x = quarter >> 2 & 7;
            int y = quarter >> 5;
            switch (quarter & 3) {
                case 0: return y > 0 ? quarter - 30 : NONE;
                case 1: return x < SIDE - 1 ? quarter + 6 : NONE;
                case 2: return y < SIDE - 1 ? quarter + 30 : NONE;
                default: return x > 0 ? quarter - 6 : NONE;
            }
        }

        int countCorners(Shape shape, boolean inward) {
            int many = 0;
            for (int y = 0; y <= SIDE; y++) {
                for (int x = 0; x <= SIDE; x++) {
                    many += countAngles(ringAt(shape, x, y), AROUND_CORNER, inward);
                    many += countAngles(shape.cell(x, y), AROUND_MIDDLE, inward);
                }
            }
            return many;
        }

        /** The eight QUARTERS round a corner of CELLS as bits, clockwise from straight above it. */
        private static int ringAt(Shape shape, int x, int y) {
            int upperRight = shape.cell(x, y - 1);
            int lowerRight = shape.cell(x, y);
            int lowerLeft = shape.cell(x - 1, y);
            int upperLeft = shape.cell(x - 1, y - 1);
            return upperRight >>> 3 & 1 | (upperRight >>> 2 & 1) << 1
                | (lowerRight & 1) << 2 | (lowerRight >>> 3 & 1) << 3
                | (lowerLeft >>> 1 & 1) << 4 | (lowerLeft & 1) << 5
                | (upperLeft >>> 2 & 1) << 6 | (upperLeft >>> 1 & 1) << 7;
        }

        private static int countAngles(int ring, int around, boolean inward) {
            if (ring == 0 || ring == (1 << around) - 1) {
                return 0;
            }
            int many = 0;
            for (int i = 0; i < around; i++) {
                int before = i == 0 ? around - 1 : i - 1;
                if ((ring >>> i & 1) != 0 && (ring >>> before & 1) == 0) {
                    int twice = 2 * rowLength(ring, i, around);
                    many += (inward ? twice > around : twice < around) ? 1 : 0;
                }
            }
            return many;
        }

        private static int rowLength(int ring, int start, int around) {
            // the ring is written twice, so that a row may run over its end
            int twice = ring | ring << around;
            for (int length = 0; length < around; length++) {
                if ((twice >>> start + length & 1) == 0) {
                    return length;
                }
            }
            return around;
        }
    }

    /** The TOKENS of a TEXT, and the FAULT that was found in it. */
    private static final class Tokens {
        static final int MOST = 400;

        static final int END = 0;
        static final int NO_TOKEN = 1;
        static final int NAME = 2;
        static final int INT = 3;
        static final int BOARD = 10;
        static final int OUTLINE = 11;
        static final int TURN = 12;
        static final int FLIP = 13;
        static final int BASE = 14;
        static final int SHIFT = 15;
        static final int CELL = 16;
        static final int BOX = 17;
        static final int HALF = 18;
        static final int QUARTER = 19;

        static final int SYNTAX = 1;
        static final int ROOM = 2;
        static final int TWICE = 3;
        static final int UNKNOWN_NAME = 4;
        static final int WRONG = 5;
        static final int OFF = 6;
        static final int EMPTY = 7;

        private static final int LONGEST_NAME = 8;
        private static final int LONGEST_INT = 2;
        private static final int WORD_COUNT = 10;
        // each word takes eight places, in the order of the kinds from BOARD on
        private static final String WORDS =
            "board   outline turn    flip    base    shift   cell    box     half    quarter ";
        // a sign's kind is its own byte, which is above all other kinds
        private static final String SIGNS = ";=+-&()";

        final int[] kinds = new int[MOST + 1];
        final int[] places = new int[MOST + 1];
        final long[] values = new long[MOST + 1];
        int many = 0;
        int endPlace = 0;
        int fault = 0;
        int faultPlace = NONE;
        private final long[] wordCodes = new long[WORD_COUNT];

        Tokens() {
            for (int word = 0; word < WORD_COUNT; word++) {
                long code = 0;
                for (int i = 0; i < LONGEST_NAME; i++) {
                    char letter = WORDS.charAt(LONGEST_NAME * word + i);
                    code = letter == ' ' ? code : withLetter(code, letter);
                }
                wordCodes[word] = code;
            }
        }

        /** Ends behind what is no TOKEN, and behind one more TOKEN than there is ROOM for. */
        void scan(byte[] text, int length) {
            many = 0;
            endPlace = length;
            fault = 0;
            faultPlace = NONE;
            int at = 0;
            for (int i = 0; i < length && at < length && many <= MOST; i++) {
                int sign = byteAt(text, length, at);
                if (isBlank(sign)) {
                    at++;
                } else if (isLetter(sign)) {
                    at = scanLetters(text, length, at);
                } else if (isDigit(sign)) {
                    at = scanDigits(text, length, at);
                } else {
                    add(SIGNS.indexOf((char) sign) >= 0 ? sign : NO_TOKEN, at, 0);
                    at++;
                }
                if (many > 0 && kinds[many - 1] == NO_TOKEN) {
                    return;
                }
            }
        }

        private int scanLetters(byte[] text, int length, int start) {
            int end = start;
            long code = 0;
            for (; end < length && isLetter(byteAt(text, length, end)); end++) {
                code = withLetter(code, byteAt(text, length, end));
            }
            add(end - start > LONGEST_NAME ? NO_TOKEN : kindOfWord(code), start, code);
            return end;
        }

        private int scanDigits(byte[] text, int length, int start) {
            int end = start;
            int number = 0;
            for (; end < length && isDigit(byteAt(text, length, end)); end++) {
                number = 10 * number + byteAt(text, length, end) - '0';
            }
            add(end - start > LONGEST_INT ? NO_TOKEN : INT, start, number);
            return end;
        }

        private int kindOfWord(long code) {
            for (int word = 0; word < WORD_COUNT; word++) {
                if (wordCodes[word] == code) {
                    return BOARD + word;
                }
            }
            return NAME;
        }

        private void add(int kind, int place, long value) {
            if (many <= MOST) {
                kinds[many] = kind;
                places[many] = place;
                values[many] = value;
                many++;
            }
        }

        int kindAt(int i) {
            return i >= 0 && i < many ? kinds[i] : END;
        }

        int placeAt(int i) {
            return i >= 0 && i < many ? places[i] : endPlace;
        }

        long valueAt(int i) {
            return i >= 0 && i < many ? values[i] : 0;
        }

        void blame(int number, int i) {
            fault = number;
            faultPlace = placeAt(i);
        }

        private static long withLetter(long code, int letter) {
            return code << 5 | letter - 'a' + 1;
        }

        private static int byteAt(byte[] text, int length, int at) {
            return at >= 0 && at < length && at < text.length ? text[at] & 255 : 0;
        }

        private static boolean isBlank(int sign) {
            return sign == 9 || sign == 10 || sign == 13 || sign == 32;
        }

        private static boolean isLetter(int sign) {
            return sign >= 'a' && sign <= 'z';
        }

        private static boolean isDigit(int sign) {
            return sign >= '0' && sign <= '9';
        }
    }

    /** The FAULTS 1 SYNTAX and 2 ROOM: goes once over the TOKENS and knows what may come next. */
    private static final class Syntax {
        private static final int TELLING = 0;
        private static final int TOLD_NAME = 1;
        private static final int IS = 2;
        private static final int AHEAD_OF_UNIT = 3;
        private static final int SHIFT_NUMBER = 4;
        private static final int SHIFT_DIGITS = 5;
        private static final int UNIT_NUMBER = 6;
        private static final int BEHIND_UNIT = 7;
        private static final int REFUSED = 8;

        private static final int MOST_BRACKETS = 6;

        private int state = TELLING;
        private int numbersLeft = 0;
        private int brackets = 0;
        private int boardsTold = 0;
        private int outlinesTold = 0;

        void check(Tokens tokens) {
            state = TELLING;
            numbersLeft = 0;
            brackets = 0;
            boardsTold = 0;
            outlinesTold = 0;
            for (int i = 0; i < tokens.many; i++) {
                state = next(tokens.kindAt(i));
                if (state == REFUSED) {
                    tokens.blame(Tokens.SYNTAX, i);
                    return;
                }
                if (i >= Tokens.MOST || lacksRoom()) {
                    tokens.blame(Tokens.ROOM, i);
                    return;
                }
            }
            if (state != TELLING) {
                tokens.blame(Tokens.SYNTAX, tokens.many);
            }
        }

        private boolean lacksRoom() {
            return boardsTold > MOST_BOARDS || outlinesTold > MOST_OUTLINES
                || brackets > MOST_BRACKETS;
        }

        private int next(int kind) {
            switch (state) {
                case TELLING: return behindTelling(kind);
                case TOLD_NAME: return kind == Tokens.NAME ? IS : REFUSED;
                case IS: return kind == '=' ? AHEAD_OF_UNIT : REFUSED;
                case AHEAD_OF_UNIT: return inPart(kind);
                case SHIFT_NUMBER: return kind == '-' ? SHIFT_DIGITS : behindShiftNumber(kind);
                case SHIFT_DIGITS: return behindShiftNumber(kind);
                case UNIT_NUMBER: return behindUnitNumber(kind);
                case BEHIND_UNIT: return behindUnit(kind);
                default: return REFUSED;
            }
        }

        private int behindTelling(int kind) {
            if (kind == Tokens.BOARD) {
                boardsTold++;
                return TOLD_NAME;
            }
            if (kind == Tokens.OUTLINE) {
                outlinesTold++;
                return TOLD_NAME;
            }
            return REFUSED;
        }

        private int inPart(int kind) {
            switch (kind) {
                case Tokens.TURN:
                case Tokens.FLIP:
                case Tokens.BASE:
                    return AHEAD_OF_UNIT;
                case Tokens.SHIFT:
                    numbersLeft = 2;
                    return SHIFT_NUMBER;
                case Tokens.NAME:
                    return BEHIND_UNIT;
                case '(':
                    brackets++;
                    return AHEAD_OF_UNIT;
                case Tokens.CELL:
                    numbersLeft = 2;
                    return UNIT_NUMBER;
                case Tokens.BOX:
                    numbersLeft = 4;
                    return UNIT_NUMBER;
                case Tokens.HALF:
                case Tokens.QUARTER:
                    numbersLeft = 3;
                    return UNIT_NUMBER;
                default:
                    return REFUSED;
            }
        }

        private int behindShiftNumber(int kind) {
            if (kind != Tokens.INT) {
                return REFUSED;
            }
            numbersLeft--;
            return numbersLeft > 0 ? SHIFT_NUMBER : AHEAD_OF_UNIT;
        }

        private int behindUnitNumber(int kind) {
            if (kind != Tokens.INT) {
                return REFUSED;
            }
            numbersLeft--;
            return numbersLeft > 0 ? UNIT_NUMBER : BEHIND_UNIT;
        }

        private int behindUnit(int kind) {
            if (kind == '+' || kind == '-' || kind == '&') {
                return AHEAD_OF_UNIT;
            }
            if (kind == ')' && brackets > 0) {
                brackets--;
                return BEHIND_UNIT;
            }
            return kind == ';' && brackets == 0 ? TELLING : REFUSED;
        }
    }

    /** The FAULTS 3 TWICE, 4 NAME and 5 WRONG of a TEXT whose SYNTAX is right. */
    private static final class Meaning {
        private final long[] names = new long[MOST_BOARDS + MOST_OUTLINES];
        private int told = 0;
        private long openName = 0;
        private int word = 0;
        private int numbersSeen = 0;
        private int unitX = 0;
        private int unitY = 0;

        void check(Tokens tokens) {
            told = 0;
            for (int i = 0; i < tokens.many; i++) {
                int number = faultAt(tokens, i);
                if (number != 0) {
                    tokens.blame(number, i);
                    return;
                }
            }
        }

        private int faultAt(Tokens tokens, int i) {
            int kind = tokens.kindAt(i);
            if (kind == Tokens.NAME) {
                return isTelling(tokens.kindAt(i - 1))
                    ? openNameFault(tokens.valueAt(i)) : usedNameFault(tokens.valueAt(i));
            }
            if (kind == Tokens.INT) {
                return numberFault((int) tokens.valueAt(i));
            }
            if (kind == ';') {
                closeName();
            } else if (kind >= Tokens.BOARD && kind <= Tokens.QUARTER) {
                word = kind;
                numbersSeen = 0;
            }
            return 0;
        }

        private static boolean isTelling(int kind) {
            return kind == Tokens.BOARD || kind == Tokens.OUTLINE;
        }

        private int openNameFault(long name) {
            openName = name;
            return isTold(name) ? Tokens.TWICE : 0;
        }

        private int usedNameFault(long name) {
            return isTold(name) ? 0 : Tokens.UNKNOWN_NAME;
        }

        // a NAME is told only behind its own E
        private void closeName() {
            if (told < names.length) {
                names[told] = openName;
                told++;
            }
        }

        private boolean isTold(long name) {
            for (int i = 0; i < told; i++) {
                if (names[i] == name) {
                    return true;
                }
            }
            return false;
        }

        private int numberFault(int number) {
            int nth = numbersSeen;
            numbersSeen++;
            if (nth == 0) {
                unitX = number;
            } else if (nth == 1) {
                unitY = number;
            }
            return number < leastNumber(nth) || number > mostNumber(nth) ? Tokens.WRONG : 0;
        }

        private int leastNumber(int nth) {
            return nth >= 2 && word == Tokens.BOX ? 1 : 0;
        }

        private int mostNumber(int nth) {
            if (nth < 2) {
                return SIDE - 1;
            }
            if (word == Tokens.BOX) {
                return SIDE - (nth == 2 ? unitX : unitY);
            }
            return 3;
        }
    }

    /** Makes the boards and outlines of a TEXT, and finds the FAULTS 6 OFF and 7 EMPTY. */
    private static final class Builder {
        private static final int MOST_TOLD = MOST_BOARDS + MOST_OUTLINES;
        private static final int LEVELS = 7;

        // made here, so that no constructor hands out a part of the object that it makes
        final Tokens tokens = new Tokens();
        final Shape[] made = new Shape[MOST_TOLD];
        final boolean[] asOutline = new boolean[MOST_TOLD];
        int many = 0;
        private final long[] names = new long[MOST_TOLD];
        private final Shape[] sums = new Shape[LEVELS];
        private final Shape[] parts = new Shape[LEVELS];
        private final Shape spare = new Shape();
        private final int[] words = new int[Tokens.MOST];
        private int wordsOpen = 0;
        private int at = 0;

        Builder() {
            for (int i = 0; i < MOST_TOLD; i++) {
                made[i] = new Shape();
            }
            for (int level = 0; level < LEVELS; level++) {
                sums[level] = new Shape();
                parts[level] = new Shape();
            }
        }

        void build() {
            at = 0;
            many = 0;
            wordsOpen = 0;
            for (int i = 0; i < MOST_TOLD && at < tokens.many; i++) {
                int nameAt = at + 1;
                asOutline[i] = tokens.kindAt(at) == Tokens.OUTLINE;
                names[i] = tokens.valueAt(nameAt);
                at += 3;
                sumUp(0);
                if (tokens.fault == 0 && sums[0].isNothing()) {
                    tokens.blame(Tokens.EMPTY, nameAt);
                }
                if (tokens.fault != 0) {
                    return;
                }
                made[i].copy(sums[0]);
                many = i + 1;
                at++;
            }
        }

        private void sumUp(int level) {
            if (level >= LEVELS) {
                return;
            }
            makePart(level);
            sums[level].copy(parts[level]);
            for (int i = 0; i < Tokens.MOST && tokens.fault == 0; i++) {
                int sign = tokens.kindAt(at);
                if (sign != '+' && sign != '-' && sign != '&') {
                    return;
                }
                at++;
                makePart(level);
                combine(sums[level], sign, parts[level]);
            }
        }

        private static void combine(Shape sum, int sign, Shape other) {
            if (sign == '+') {
                sum.join(other);
            } else if (sign == '-') {
                sum.takeAway(other);
            } else {
                sum.keepCommon(other);
            }
        }

        private void makePart(int level) {
            int firstWord = wordsOpen;
            for (int i = 0; i < Tokens.MOST && isWord(tokens.kindAt(at)); i++) {
                openWord();
            }
            makeUnit(level);
            for (int i = wordsOpen - 1; i >= firstWord && tokens.fault == 0; i--) {
                doWord(words[i], parts[level]);
            }
            wordsOpen = firstWord;
        }

        private static boolean isWord(int kind) {
            return kind >= Tokens.TURN && kind <= Tokens.SHIFT;
        }

        private void openWord() {
            if (wordsOpen < words.length) {
                words[wordsOpen] = at;
                wordsOpen++;
            }
            at = tokens.kindAt(at) == Tokens.SHIFT ? behindNumber(behindNumber(at + 1)) : at + 1;
        }

        private int behindNumber(int i) {
            return tokens.kindAt(i) == '-' ? i + 2 : i + 1;
        }

        private int numberAt(int i) {
            return tokens.kindAt(i) == '-' ? -(int) tokens.valueAt(i + 1) : (int) tokens.valueAt(i);
        }

        private void doWord(int wordAt, Shape shape) {
            int word = tokens.kindAt(wordAt);
            spare.copy(shape);
            if (word == Tokens.TURN) {
                shape.becomeTurned(spare);
            } else if (word == Tokens.FLIP) {
                shape.becomeFlipped(spare);
            } else if (word == Tokens.BASE) {
                shape.moveToBase();
            } else {
                int a = numberAt(wordAt + 1);
                int b = numberAt(behindNumber(wordAt + 1));
                if (spare.goesOff(a, b)) {
                    tokens.blame(Tokens.OFF, wordAt);
                } else {
                    shape.becomeShifted(spare, a, b);
                }
            }
        }

        private void makeUnit(int level) {
            Shape unit = parts[level];
            int kind = tokens.kindAt(at);
            if (kind == '(') {
                at++;
                sumUp(level + 1);
                if (level + 1 < LEVELS) {
                    unit.copy(sums[level + 1]);
                }
                at++;
            } else if (kind == Tokens.NAME) {
                copyNamed(unit, tokens.valueAt(at));
                at++;
            } else {
                makeCells(unit, kind);
            }
        }

        private void copyNamed(Shape unit, long name) {
            unit.clear();
            for (int i = 0; i < many; i++) {
                if (names[i] == name) {
                    unit.copy(made[i]);
                }
            }
        }

        private void makeCells(Shape unit, int kind) {
            int x = numberAt(at + 1);
            int y = numberAt(at + 2);
            int third = numberAt(at + 3);
            unit.clear();
            if (kind == Tokens.CELL) {
                unit.addCell(x, y, 15);
                at += 3;
            } else if (kind == Tokens.BOX) {
                addBox(unit, x, y, third, numberAt(at + 4));
                at += 5;
            } else {
                int two = 1 << third | 1 << (third + 1 & 3);
                unit.addCell(x, y, kind == Tokens.HALF ? two : 1 << third);
                at += 4;
            }
        }

        private static void addBox(Shape unit, int x, int y, int w, int h) {
            for (int row = y; row < y + h; row++) {
                for (int column = x; column < x + w; column++) {
                    unit.addCell(column, row, 15);
                }
            }
        }
    }

    /** FILLINGS of outlines, the one that is remembered, and the SETS that FILL. */
    private static final class Filler {
        private static final int MOST_STEPS = 60000;
        private static final int NOT_LOOKED = -3;
        private static final int ALL_SETS = 1 << MOST_BOARDS;
        private static final int SET_ROWS = ALL_SETS >> 5;

        // the boards of the house, made here for the same reason as the Builder's TOKENS
        final Form[] boards = new Form[MOST_BOARDS];
        int countedSteps = 0;
        private final Shape left = new Shape();
        private boolean onlyFirst = false;
        private boolean full = false;
        private int stepsDone = 0;
        private int ways = 0;
        private final int[] tried = new int[MOST_BOARDS];
        private final int[] firstWay = new int[MOST_BOARDS];
        private int rememberedSet = 0;
        private final int[] setCounts = new int[MOST_OUTLINES];
        // one bit for each SET: a list of all of them would be thirty times as long
        private final int[][] fillingSets = new int[MOST_OUTLINES][SET_ROWS];

        Filler() {
            for (int board = 0; board < MOST_BOARDS; board++) {
                boards[board] = new Form();
            }
        }

        void forget() {
            rememberedSet = 0;
        }

        void forgetSets() {
            for (int k = 0; k < MOST_OUTLINES; k++) {
                setCounts[k] = NOT_LOOKED;
            }
        }

        int countAll(Form outline, int set) {
            look(outline, set, false);
            countedSteps = stepsDone;
            if (full) {
                return NOT_SO;
            }
            rememberedSet = ways > 0 ? set : 0;
            return ways;
        }

        int tellRemembered(int board, int what) {
            if (board < 0 || board >= MOST_BOARDS || (rememberedSet >>> board & 1) == 0) {
                return UNTOLD;
            }
            return tellOf(firstWay[board], what);
        }

        int countSets(int k, Form outline, int boardCount) {
            if (k < 0 || k >= MOST_OUTLINES) {
                return NONE;
            }
            if (setCounts[k] == NOT_LOOKED) {
                setCounts[k] = lookForSets(fillingSets[k], outline, boardCount);
            }
            return setCounts[k];
        }

        private int lookForSets(int[] found, Form outline, int boardCount) {
            int many = 0;
            for (int row = 0; row < found.length; row++) {
                found[row] = 0;
            }
            for (int set = 1; set < 1 << boardCount && set >> 5 < found.length; set++) {
                look(outline, set, true);
                if (full) {
                    return NOT_SO;
                }
                if (ways > 0) {
                    found[set >> 5] |= 1 << (set & 31);
                    many++;
                }
            }
            return many;
        }

        private boolean doesFill(int k, int set) {
            return k >= 0 && k < MOST_OUTLINES && set >= 0 && set < ALL_SETS
                && (fillingSets[k][set >> 5] >>> (set & 31) & 1) != 0;
        }

        int setAt(int k, int i) {
            int seen = 0;
            for (int set = 1; set < ALL_SETS; set++) {
                if (doesFill(k, set)) {
                    if (seen == i) {
                        return set;
                    }
                    seen++;
                }
            }
            return NONE;
        }

        int inAllSets(int k) {
            int all = ALL_SETS - 1;
            for (int set = 1; set < ALL_SETS; set++) {
                all &= doesFill(k, set) ? set : all;
            }
            return all;
        }

        private void look(Form outline, int set, boolean stopAtFirst) {
            onlyFirst = stopAtFirst;
            full = false;
            stepsDone = 0;
            ways = 0;
            if (areaOf(set) == outline.size) {
                left.copy(outline.told);
                search(0, set);
            }
        }

        private int areaOf(int set) {
            int sum = 0;
            for (int board = 0; board < MOST_BOARDS; board++) {
                sum += (set >>> board & 1) != 0 ? boards[board].size : 0;
            }
            return sum;
        }

        private boolean isOver() {
            return full || onlyFirst && ways > 0;
        }

        private void search(int depth, int unused) {
            int quarter = left.lowestQuarter();
            if (unused == 0) {
                countWay();
            } else if (depth < MOST_BOARDS && quarter >= 0) {
                for (int board = 0; board < MOST_BOARDS && !isOver(); board++) {
                    if ((unused >>> board & 1) != 0) {
                        tryBoard(board, quarter, depth, unused);
                    }
                }
            }
        }

        private void countWay() {
            ways++;
            // looking for SETS must leave the FILLING that is remembered
            if (ways == 1 && !onlyFirst) {
                System.arraycopy(tried, 0, firstWay, 0, MOST_BOARDS);
            }
        }

        private void tryBoard(int board, int quarter, int depth, int unused) {
            Form form = boards[board];
            for (int g = 0; g < ALL_IMAGES && !isOver(); g++) {
                int start = form.lowest[g];
                // a SHIFT leaves d as it is, so another d never comes on that QUARTER
                if (form.leastSame[g] != g || (start & 3) != (quarter & 3)) {
                    continue;
                }
                // an IMAGE's least QUARTER lies in the GRID's first row
                int a = (quarter >> 2 & 7) - (start >> 2 & 7);
                int b = quarter >> 5;
                if (!form.staysOn(g, a, b)) {
                    continue;
                }
                if (stepsDone == MOST_STEPS) {
                    full = true;
                    return;
                }
                stepsDone++;
                if (fits(form.turned[g], form.height[g], a, b)) {
                    tried[board] = layCode(g, a, b);
                    change(form.turned[g], form.height[g], a, b);
                    search(depth + 1, unused & ~(1 << board));
                    change(form.turned[g], form.height[g], a, b);
                }
            }
        }

        private boolean fits(Shape image, int height, int a, int b) {
            for (int y = 0; y < height && y + b < SIDE; y++) {
                if ((Shape.slide(image.rows[y], a) & ~left.rows[y + b]) != 0) {
                    return false;
                }
            }
            return true;
        }

        /** Takes a LAY that fits from what is left; done once more it comes back. */
        private void change(Shape image, int height, int a, int b) {
            for (int y = 0; y < height && y + b < SIDE; y++) {
                left.rows[y + b] ^= Shape.slide(image.rows[y], a);
            }
        }

        /** A LAY as one number, of which two are equal just if g, a and b are. */
        static int layCode(int g, int a, int b) {
            return g << 6 | a << 3 | b;
        }

        static int tellOf(int code, int what) {
            switch (what) {
                case 0: return code >> 6;
                case 1: return code >> 3 & 7;
                case 2: return code & 7;
                default: return UNTOLD;
            }
        }
    }

    /** THE CUT of one outline that makes another one, and the one that is remembered. */
    private static final class Cutter {
        private static final int FARTHEST = 7;

        private int partCount = 0;
        private int imageLaid = 0;
        private int shiftA = 0;
        private int shiftB = 0;
        private final Shape whole = new Shape();
        private final Shape firstPart = new Shape();
        private final Shape secondPart = new Shape();
        private final Shape common = new Shape();
        private final Shape leftOver = new Shape();
        private final Form leftForm = new Form();

        void forget() {
            partCount = 0;
        }

        int look(Form one, Form other, Measure measure) {
            whole.copy(one.base());
            int same = other.imageThatIs(whole);
            if (same >= 0) {
                firstPart.copy(whole);
                return remember(1, same, 0, 0);
            }
            if (one.size != other.size) {
                return NOT_SO;
            }
            for (int g = 0; g < ALL_IMAGES; g++) {
                // the same IMAGE again would be found again, by a greater g
                if (other.leastSame[g] == g && lookWith(other.turned[g], g, measure)) {
                    return partCount;
                }
            }
            return NOT_SO;
        }

        private boolean lookWith(Shape image, int g, Measure measure) {
            for (int b = -FARTHEST; b <= FARTHEST; b++) {
                for (int a = -FARTHEST; a <= FARTHEST; a++) {
                    if (cuts(image, a, b, measure)) {
                        remember(2, g, a, b);
                        return true;
                    }
                }
            }
            return false;
        }

        private boolean cuts(Shape image, int a, int b, Measure measure) {
            firstPart.becomeShifted(image, a, b);
            firstPart.keepCommon(whole);
            if (firstPart.isNothing()) {
                return false;
            }
            secondPart.copy(whole);
            secondPart.takeAway(firstPart);
            // shifted back, so that what is beyond the GRID is still there
            common.becomeShifted(firstPart, -a, -b);
            leftOver.copy(image);
            leftOver.takeAway(common);
            // the cheapest question comes first: most SHIFTS end here
            if (!haveLikeSides() || !measure.isOnePiece(firstPart)
                || !measure.isOnePiece(secondPart)) {
                return false;
            }
            leftOver.moveToBase();
            leftForm.tell(secondPart);
            return leftForm.imageThatIs(leftOver) >= 0;
        }

        private boolean haveLikeSides() {
            int width = secondPart.right() - secondPart.left();
            int height = secondPart.bottom() - secondPart.top();
            int otherWidth = leftOver.right() - leftOver.left();
            int otherHeight = leftOver.bottom() - leftOver.top();
            return width == otherWidth && height == otherHeight
                || width == otherHeight && height == otherWidth;
        }

        private int remember(int parts, int g, int a, int b) {
            partCount = parts;
            imageLaid = g;
            shiftA = a;
            shiftB = b;
            return parts;
        }

        int partOf(int quarter) {
            if (partCount == 0 || !whole.holds(quarter)) {
                return NONE;
            }
            return firstPart.holds(quarter) ? 0 : 1;
        }

        int tellLaid(int what) {
            if (partCount == 0) {
                return UNTOLD;
            }
            switch (what) {
                case 0: return imageLaid;
                case 1: return shiftA;
                case 2: return shiftB;
                default: return UNTOLD;
            }
        }
    }

    /** THE TABLE: at most one LAY of each board. */
    private static final class Table {
        private static final int MISSING = -1;

        private final Shape[] lays = new Shape[MOST_BOARDS];
        private final int[] codes = new int[MOST_BOARDS];
        private final Shape once = new Shape();
        private final Shape again = new Shape();
        private final Shape spare = new Shape();

        Table() {
            for (int board = 0; board < MOST_BOARDS; board++) {
                lays[board] = new Shape();
                codes[board] = MISSING;
            }
        }

        void empty() {
            for (int board = 0; board < MOST_BOARDS; board++) {
                take(board);
            }
        }

        boolean holdsBoard(int board) {
            return board >= 0 && board < MOST_BOARDS && codes[board] != MISSING;
        }

        /** IMAGES that are the same get the same code: CLAIMS are compared by QUARTERS covered. */
        void put(int board, Form form, int g, int a, int b) {
            lays[board].becomeShifted(form.turned[g], a, b);
            codes[board] = Filler.layCode(form.leastSame[g], a, b);
        }

        void take(int board) {
            lays[board].clear();
            codes[board] = MISSING;
        }

        void copyCodes(int[] into) {
            System.arraycopy(codes, 0, into, 0, Math.min(into.length, MOST_BOARDS));
        }

        int countLays() {
            return Integer.bitCount(boardsLaid());
        }

        private int boardsLaid() {
            int bits = 0;
            for (int board = 0; board < MOST_BOARDS; board++) {
                bits |= holdsBoard(board) ? 1 << board : 0;
            }
            return bits;
        }

        int boardOn(int quarter) {
            for (int board = 0; board < MOST_BOARDS; board++) {
                if (lays[board].holds(quarter)) {
                    return board;
                }
            }
            return NOT_SO;
        }

        void unite(Shape sum) {
            sum.clear();
            for (int board = 0; board < MOST_BOARDS; board++) {
                sum.join(lays[board]);
            }
        }

        int countClashes() {
            once.clear();
            again.clear();
            for (int board = 0; board < MOST_BOARDS; board++) {
                spare.copy(lays[board]);
                spare.keepCommon(once);
                again.join(spare);
                once.join(lays[board]);
            }
            return again.countQuarters();
        }

        int judge(Shape outline, int set) {
            int laid = boardsLaid();
            if ((laid & ~set) != 0) {
                return 1;
            }
            if ((set & ~laid) != 0) {
                return 2;
            }
            if (countClashes() > 0) {
                return 3;
            }
            spare.copy(once);
            spare.takeAway(outline);
            if (!spare.isNothing()) {
                return 4;
            }
            return once.isSame(outline) ? 0 : 5;
        }
    }

    /** CLAIMS and VOIDS. */
    private static final class Book {
        private static final int MOST_ENTRIES = 60;
        private static final int RIGHT = 0;

        int entries = 0;
        final int[] verdicts = new int[MOST_ENTRIES];
        private final int[] players = new int[MOST_ENTRIES];
        private final int[] outlines = new int[MOST_ENTRIES];
        private final int[] boardSets = new int[MOST_ENTRIES];
        private final int[][] layCodes = new int[MOST_ENTRIES][MOST_BOARDS];
        // of a VOID the CLAIM that it names, of a CLAIM NONE
        private final int[] named = new int[MOST_ENTRIES];

        void empty() {
            entries = 0;
        }

        boolean isFull() {
            return entries >= MOST_ENTRIES;
        }

        boolean isClaim(int i) {
            return i >= 0 && i < entries && named[i] == NONE;
        }

        int enterClaim(int player, int outline, int set, int judged, Table table) {
            players[entries] = player;
            outlines[entries] = outline;
            boardSets[entries] = set;
            verdicts[entries] = judged;
            named[entries] = NONE;
            table.copyCodes(layCodes[entries]);
            entries++;
            return entries - 1;
        }

        int enterVoid(int claim) {
            named[entries] = claim;
            entries++;
            return entries - 1;
        }

        boolean isKnownRight(int i, int n) {
            if (i >= n || !isClaim(i) || verdicts[i] != RIGHT) {
                return false;
            }
            for (int later = i + 1; later < n && later < entries; later++) {
                if (named[later] == i) {
                    return false;
                }
            }
            return true;
        }

        int firstSame(int claim, int n) {
            for (int i = 0; i < claim; i++) {
                if (isKnownRight(i, n) && areSame(i, claim)) {
                    return i;
                }
            }
            return claim;
        }

        int countPoints(int player, int n) {
            int many = 0;
            for (int i = 0; i < n; i++) {
                if (isKnownRight(i, n) && players[i] == player && firstSame(i, n) == i) {
                    many++;
                }
            }
            return many;
        }

        private boolean areSame(int one, int other) {
            if (outlines[one] != outlines[other] || boardSets[one] != boardSets[other]) {
                return false;
            }
            for (int board = 0; board < MOST_BOARDS; board++) {
                if (layCodes[one][board] != layCodes[other][board]) {
                    return false;
                }
            }
            return true;
        }
    }
}
