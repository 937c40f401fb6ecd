import java.util.ArrayList;
import java.util.Arrays;
import java.util.HashMap;
import java.util.HashSet;
import java.util.List;
import java.util.Map;
import java.util.Set;
import java.util.TreeSet;

/**
 * The document written down a second time, slowly and from the words alone: SHAPES are sets of
 * QUARTERS {x, y, d} on a plane without a rim, CORNERS are found by looking round each POINT, and
 * LAYS are all listed. ReferenceTest asks it and QuarterBoards the same calls.
 */
final class Reference {
    record Q(int x, int y, int d) {
        int number() {
            return 4 * (8 * y + x) + d;
        }

        static Q of(int number) {
            return new Q(number / 4 % 8, number / 32, number % 4);
        }

        boolean onGrid() {
            return x >= 0 && x < 8 && y >= 0 && y < 8;
        }
    }

    record Lay(int g, int a, int b, Set<Q> quarters) {
    }

    record Entry(int player, int outline, int set, int verdict, Map<Integer, Set<Q>> lays, int names) {
        boolean isVoid() {
            return names >= 0;
        }
    }

    /** A FAULT, thrown to leave the reading. */
    static final class Fault extends RuntimeException {
        private static final long serialVersionUID = 1L;
        final int number;
        final int place;

        Fault(int number, int place) {
            this.number = number;
            this.place = place;
        }
    }

    private final StringBuilder tape = new StringBuilder();
    private int place = -1;
    private List<Set<Q>> boards = new ArrayList<>();
    private List<Set<Q>> outlines = new ArrayList<>();
    private Map<Integer, Set<Q>> table = new HashMap<>();
    private List<Entry> book = new ArrayList<>();
    private Map<Integer, Lay> remembered = null;
    private int steps = 0;
    private Set<Q> cutWhole = null;
    private Set<Q> cutFirst = null;
    private int[] cutLaid = null;

    // ---- the plane

    static Set<Q> turn(Set<Q> s) {
        Set<Q> to = new HashSet<>();
        for (Q q : s) {
            to.add(new Q(7 - q.y, q.x, (q.d + 1) % 4));
        }
        return to;
    }

    static Set<Q> flip(Set<Q> s) {
        Set<Q> to = new HashSet<>();
        for (Q q : s) {
            to.add(new Q(7 - q.x, q.y, q.d == 1 ? 3 : q.d == 3 ? 1 : q.d));
        }
        return to;
    }

    static Set<Q> shift(Set<Q> s, int a, int b) {
        Set<Q> to = new HashSet<>();
        for (Q q : s) {
            to.add(new Q(q.x + a, q.y + b, q.d));
        }
        return to;
    }

    static Set<Q> base(Set<Q> s) {
        int left = s.stream().mapToInt(Q::x).min().orElse(0);
        int top = s.stream().mapToInt(Q::y).min().orElse(0);
        return shift(s, -left, -top);
    }

    static Set<Q> image(Set<Q> s, int g) {
        Set<Q> to = g >= 4 ? flip(s) : s;
        for (int i = 0; i < g % 4; i++) {
            to = turn(to);
        }
        return base(to);
    }

    static int byWhichImage(Set<Q> one, Set<Q> other) {
        for (int g = 0; g < 8; g++) {
            if (image(one, g).equals(base(other))) {
                return g;
            }
        }
        return -2;
    }

    static boolean isOnGrid(Set<Q> s) {
        return s.stream().allMatch(Q::onGrid);
    }

    static int leastOf(Set<Q> s) {
        return s.stream().mapToInt(Q::number).min().orElse(-1);
    }

    /** The three tips of a QUARTER, each as one number; CELLS are two wide. */
    private static Set<Integer> tips(Q q) {
        int x = 2 * q.x;
        int y = 2 * q.y;
        int[][] rim = {{x, y}, {x + 2, y}, {x + 2, y + 2}, {x, y + 2}};
        int[] one = rim[q.d];
        int[] two = rim[(q.d + 1) % 4];
        return Set.of(tip(one[0], one[1]), tip(two[0], two[1]), tip(x + 1, y + 1));
    }

    private static int tip(int x, int y) {
        return 1000 * (y + 100) + x + 100;
    }

    private static boolean shareASide(Q one, Q other) {
        if (Math.abs(one.x - other.x) > 1 || Math.abs(one.y - other.y) > 1) {
            return false;
        }
        Set<Integer> both = new HashSet<>(tips(one));
        both.retainAll(tips(other));
        return both.size() == 2;
    }

    static int piecesOf(Set<Q> s) {
        Set<Q> open = new HashSet<>(s);
        int many = 0;
        while (!open.isEmpty()) {
            many++;
            List<Q> piece = new ArrayList<>(List.of(open.iterator().next()));
            open.remove(piece.get(0));
            for (int i = 0; i < piece.size(); i++) {
                for (Q q : new ArrayList<>(open)) {
                    if (shareASide(piece.get(i), q)) {
                        open.remove(q);
                        piece.add(q);
                    }
                }
            }
        }
        return many;
    }

    /** Looks from a POINT (in half CELLS) in sixteen directions, two in each eighth. */
    static int cornersOf(Set<Q> s, boolean inward) {
        int many = 0;
        for (int y = 0; y <= 16; y++) {
            for (int x = 0; x <= 16; x++) {
                if (x % 2 == y % 2) {
                    many += anglesAt(s, x / 2.0, y / 2.0, inward);
                }
            }
        }
        return many;
    }

    private static int anglesAt(Set<Q> s, double x, double y, boolean inward) {
        boolean[] seen = new boolean[16];
        int filled = 0;
        for (int i = 0; i < 16; i++) {
            double angle = Math.toRadians(22.5 * i + 11.25);
            seen[i] = s.contains(quarterAt(x + 0.1 * Math.cos(angle), y + 0.1 * Math.sin(angle)));
            filled += seen[i] ? 1 : 0;
        }
        if (filled == 0 || filled == 16) {
            return 0;
        }
        int many = 0;
        for (int i = 0; i < 16; i++) {
            if (seen[i] && !seen[(i + 15) % 16]) {
                int length = 0;
                while (seen[(i + length) % 16]) {
                    length++;
                }
                double degrees = 22.5 * length;
                many += inward && degrees > 180 || !inward && degrees < 180 ? 1 : 0;
            }
        }
        return many;
    }

    private static Q quarterAt(double px, double py) {
        int x = (int) Math.floor(px);
        int y = (int) Math.floor(py);
        double dx = px - x - 0.5;
        double dy = py - y - 0.5;
        int d = Math.abs(dx) > Math.abs(dy) ? (dx > 0 ? 1 : 3) : (dy > 0 ? 2 : 0);
        return new Q(x, y, d);
    }

    // ---- the text

    record Token(String text, int place, boolean isToken) {
        boolean isWord() {
            return WORDS.contains(text);
        }

        boolean isName() {
            return isToken && text.matches("[a-z]{1,8}") && !isWord();
        }

        boolean isInt() {
            return isToken && text.matches("[0-9]{1,2}");
        }

        int value() {
            return Integer.parseInt(text);
        }
    }

    static final List<String> WORDS = List.of("board", "outline", "turn", "flip", "base", "shift",
        "cell", "box", "half", "quarter");

    private List<Token> list = new ArrayList<>();
    private int at = 0;
    private int textLength = 0;

    private void tokenize(String text) {
        list = new ArrayList<>();
        at = 0;
        textLength = text.length();
        int i = 0;
        while (i < text.length()) {
            char c = text.charAt(i);
            if (c == 9 || c == 10 || c == 13 || c == 32) {
                i++;
                continue;
            }
            int end = i + 1;
            String kind = c >= 'a' && c <= 'z' ? "[a-z]+" : c >= '0' && c <= '9' ? "[0-9]+" : null;
            while (kind != null && end < text.length() && text.substring(i, end + 1).matches(kind)) {
                end++;
            }
            String word = text.substring(i, end);
            boolean isToken = word.matches("[a-z]{1,8}|[0-9]{1,2}|[;=+&()-]");
            list.add(new Token(word, i, isToken));
            i = end;
        }
    }

    private Token look() {
        return at < list.size() ? list.get(at) : new Token("", textLength, false);
    }

    private boolean isNext(String... any) {
        return look().isToken() && Arrays.asList(any).contains(look().text());
    }

    /** Takes the next TOKEN; it fits the grammar if so told, else that is a SYNTAX fault. */
    private Token take(boolean fits) {
        Token token = look();
        if (!fits) {
            throw new Fault(1, token.place());
        }
        if (at >= 400) {
            throw new Fault(2, token.place());
        }
        at++;
        return token;
    }

    private void checkSyntax() {
        int[] told = new int[2];
        while (at < list.size()) {
            int kind = isNext("board") ? 0 : 1;
            Token word = take(isNext("board", "outline"));
            told[kind]++;
            if (told[kind] > (kind == 0 ? 8 : 6)) {
                throw new Fault(2, word.place());
            }
            take(look().isName());
            take(isNext("="));
            syntaxOfE(0);
            take(isNext(";"));
        }
    }

    private void syntaxOfE(int brackets) {
        syntaxOfPart(brackets);
        // what is no sign here is seen by whoever waits for ; or )
        while (isNext("+", "-", "&")) {
            take(true);
            syntaxOfPart(brackets);
        }
    }

    private void syntaxOfPart(int brackets) {
        while (isNext("turn", "flip", "base", "shift")) {
            boolean isShift = isNext("shift");
            take(true);
            for (int i = 0; isShift && i < 2; i++) {
                if (isNext("-")) {
                    take(true);
                }
                take(look().isInt());
            }
        }
        if (isNext("(")) {
            Token bracket = take(true);
            if (brackets == 6) {
                throw new Fault(2, bracket.place());
            }
            syntaxOfE(brackets + 1);
            take(isNext(")"));
        } else if (look().isName()) {
            take(true);
        } else {
            int ints = isNext("cell") ? 2 : isNext("box") ? 4 : isNext("half", "quarter") ? 3 : 0;
            take(ints > 0);
            for (int i = 0; i < ints; i++) {
                take(look().isInt());
            }
        }
    }

    private void checkMeaning() {
        Set<String> told = new HashSet<>();
        String open = null;
        for (int i = 0; i < list.size(); i++) {
            Token token = list.get(i);
            String before = i == 0 ? "" : list.get(i - 1).text();
            if (token.text().equals(";")) {
                told.add(open);
            } else if (token.isName() && (before.equals("board") || before.equals("outline"))) {
                open = token.text();
                if (told.contains(open)) {
                    throw new Fault(3, token.place());
                }
            } else if (token.isName() && !told.contains(token.text())) {
                throw new Fault(4, token.place());
            }
            checkInts(i);
        }
    }

    private void checkInts(int i) {
        String word = list.get(i).text();
        if (word.equals("shift")) {
            int next = i + 1;
            for (int k = 0; k < 2; k++) {
                next += list.get(next).text().equals("-") ? 1 : 0;
                between(next, 0, 7);
                next++;
            }
        } else if (List.of("cell", "box", "half", "quarter").contains(word)) {
            between(i + 1, 0, 7);
            between(i + 2, 0, 7);
            if (word.equals("box")) {
                between(i + 3, 1, 8 - list.get(i + 1).value());
                between(i + 4, 1, 8 - list.get(i + 2).value());
            } else if (!word.equals("cell")) {
                between(i + 3, 0, 3);
            }
        }
    }

    private void between(int i, int from, int to) {
        int value = list.get(i).value();
        if (value < from || value > to) {
            throw new Fault(5, list.get(i).place());
        }
    }

    private void make(List<Set<Q>> newBoards, List<Set<Q>> newOutlines) {
        Map<String, Set<Q>> named = new HashMap<>();
        at = 0;
        while (at < list.size()) {
            boolean isBoard = isNext("board");
            Token name = list.get(at + 1);
            at += 3;
            Set<Q> made = makeE(named);
            if (made.isEmpty()) {
                throw new Fault(7, name.place());
            }
            at++;
            named.put(name.text(), made);
            (isBoard ? newBoards : newOutlines).add(made);
        }
    }

    private Set<Q> makeE(Map<String, Set<Q>> named) {
        Set<Q> sum = new HashSet<>(makePart(named));
        while (isNext("+", "-", "&")) {
            String sign = take(true).text();
            Set<Q> second = makePart(named);
            if (sign.equals("+")) {
                sum.addAll(second);
            } else if (sign.equals("-")) {
                sum.removeAll(second);
            } else {
                sum.retainAll(second);
            }
        }
        return sum;
    }

    private Set<Q> makePart(Map<String, Set<Q>> named) {
        if (!isNext("turn", "flip", "base", "shift")) {
            return makeUnit(named);
        }
        Token word = take(true);
        int a = word.text().equals("shift") ? signedInt() : 0;
        int b = word.text().equals("shift") ? signedInt() : 0;
        Set<Q> rest = makePart(named);
        switch (word.text()) {
            case "turn": return turn(rest);
            case "flip": return flip(rest);
            case "base": return base(rest);
            default:
                if (!isOnGrid(shift(rest, a, b))) {
                    throw new Fault(6, word.place());
                }
                return shift(rest, a, b);
        }
    }

    private int signedInt() {
        int sign = 1;
        if (isNext("-")) {
            take(true);
            sign = -1;
        }
        return sign * take(true).value();
    }

    private Set<Q> makeUnit(Map<String, Set<Q>> named) {
        Token word = take(true);
        if (word.text().equals("(")) {
            Set<Q> inner = makeE(named);
            take(true);
            return inner;
        }
        if (word.isName()) {
            return new HashSet<>(named.get(word.text()));
        }
        int x = take(true).value();
        int y = take(true).value();
        Set<Q> unit = new HashSet<>();
        if (word.text().equals("cell")) {
            addCell(unit, x, y);
        } else if (word.text().equals("box")) {
            int w = take(true).value();
            int h = take(true).value();
            for (int i = 0; i < w * h; i++) {
                addCell(unit, x + i % w, y + i / w);
            }
        } else {
            int d = take(true).value();
            unit.add(new Q(x, y, d));
            if (word.text().equals("half")) {
                unit.add(new Q(x, y, (d + 1) % 4));
            }
        }
        return unit;
    }

    private static void addCell(Set<Q> unit, int x, int y) {
        for (int d = 0; d < 4; d++) {
            unit.add(new Q(x, y, d));
        }
    }

    // ---- the calls

    int feed(int a, int b, int c, int d, int e) {
        if (tape.length() > 1980) {
            return -1;
        }
        for (int four : new int[] {a, b, c, d, e}) {
            for (int i = 3; i >= 0; i--) {
                tape.append((char) (four >> 8 * i & 255));
            }
        }
        return tape.length();
    }

    int back(int n) {
        if (n < 0 || n > tape.length()) {
            return -1;
        }
        tape.setLength(tape.length() - n);
        return tape.length();
    }

    int read() {
        String text = tape.toString();
        tape.setLength(0);
        List<Set<Q>> newBoards = new ArrayList<>();
        List<Set<Q>> newOutlines = new ArrayList<>();
        try {
            tokenize(text);
            checkSyntax();
            checkMeaning();
            make(newBoards, newOutlines);
        } catch (Fault fault) {
            place = fault.place;
            return fault.number;
        }
        place = -1;
        boards = newBoards;
        outlines = newOutlines;
        table = new HashMap<>();
        book = new ArrayList<>();
        remembered = null;
        cutLaid = null;
        return 0;
    }

    int readAll(String text) {
        tape.setLength(0);
        tape.append(text);
        return read();
    }

    int place() {
        return place;
    }

    private Set<Q> shape(boolean outline, int k) {
        List<Set<Q>> all = outline ? outlines : boards;
        return k >= 0 && k < all.size() ? all.get(k) : null;
    }

    private boolean isSet(int set) {
        return set >= 1 && set <= (1 << boards.size()) - 1;
    }

    int area(boolean outline, int k) {
        Set<Q> s = shape(outline, k);
        return s == null ? -1 : s.size();
    }

    int has(boolean outline, int k, int quarter) {
        Set<Q> s = shape(outline, k);
        if (s == null || quarter < 0 || quarter > 255) {
            return -1;
        }
        return s.contains(Q.of(quarter)) ? 1 : 0;
    }

    int pieces(boolean outline, int k) {
        Set<Q> s = shape(outline, k);
        return s == null ? -1 : piecesOf(s);
    }

    int corners(boolean outline, int k, boolean inward) {
        Set<Q> s = shape(outline, k);
        return s == null ? -1 : cornersOf(s, inward);
    }

    int bulges(boolean outline, int k) {
        Set<Q> s = shape(outline, k);
        return s == null ? -1 : piecesOf(s) == 1 && cornersOf(s, true) == 0 ? 1 : 0;
    }

    int images(boolean outline, int k) {
        Set<Q> s = shape(outline, k);
        if (s == null) {
            return -1;
        }
        Set<Set<Q>> different = new HashSet<>();
        for (int g = 0; g < 8; g++) {
            different.add(image(s, g));
        }
        return different.size();
    }

    int least(boolean outline, int k, int g) {
        Set<Q> s = shape(outline, k);
        return s == null || g < 0 || g > 7 ? -1 : leastOf(image(s, g));
    }

    int alike(int one, int other) {
        Set<Q> s = shape(true, one);
        Set<Q> t = shape(true, other);
        return s == null || t == null ? -1 : byWhichImage(s, t);
    }

    int shows() {
        Set<Q> all = new HashSet<>();
        table.values().forEach(all::addAll);
        for (int k = 0; k < outlines.size(); k++) {
            if (!all.isEmpty() && byWhichImage(all, outlines.get(k)) >= 0) {
                return k;
            }
        }
        return -2;
    }

    // ---- FILLINGS

    private static final class Full extends RuntimeException {
        private static final long serialVersionUID = 1L;
    }

    private static final class Found extends RuntimeException {
        private static final long serialVersionUID = 1L;
    }

    private final Map<Integer, List<Lay>> allLays = new HashMap<>();
    private int tried = 0;
    private int ways = 0;
    private Map<Integer, Lay> firstWay = null;

    private static List<Lay> laysOf(Set<Q> board) {
        List<Lay> lays = new ArrayList<>();
        Set<Set<Q>> seen = new HashSet<>();
        for (int g = 0; g < 8; g++) {
            Set<Q> image = image(board, g);
            if (seen.add(image)) {
                for (int b = 0; b < 8; b++) {
                    for (int a = 0; a < 8; a++) {
                        Set<Q> lay = shift(image, a, b);
                        if (isOnGrid(lay)) {
                            lays.add(new Lay(g, a, b, lay));
                        }
                    }
                }
            }
        }
        return lays;
    }

    private void lookForFillings(Set<Q> outline, int set, boolean onlyFirst) {
        tried = 0;
        ways = 0;
        firstWay = null;
        int sum = 0;
        allLays.clear();
        for (int k = 0; k < boards.size(); k++) {
            if ((set >> k & 1) == 1) {
                sum += boards.get(k).size();
                allLays.put(k, laysOf(boards.get(k)));
            }
        }
        if (sum == outline.size()) {
            goOn(new HashSet<>(outline), new HashMap<>(), onlyFirst);
        }
    }

    private void goOn(Set<Q> left, Map<Integer, Lay> laid, boolean onlyFirst) {
        if (left.isEmpty()) {
            ways++;
            if (firstWay == null) {
                firstWay = new HashMap<>(laid);
            }
            if (onlyFirst) {
                throw new Found();
            }
            return;
        }
        int quarter = leastOf(left);
        for (int k : new TreeSet<>(allLays.keySet())) {
            if (laid.containsKey(k)) {
                continue;
            }
            for (Lay lay : allLays.get(k)) {
                if (leastOf(lay.quarters()) != quarter) {
                    continue;
                }
                if (tried == 60000) {
                    throw new Full();
                }
                tried++;
                if (left.containsAll(lay.quarters())) {
                    Set<Q> rest = new HashSet<>(left);
                    rest.removeAll(lay.quarters());
                    laid.put(k, lay);
                    goOn(rest, laid, onlyFirst);
                    laid.remove(k);
                }
            }
        }
    }

    int fill(int outline, int set) {
        remembered = null;
        Set<Q> s = shape(true, outline);
        if (s == null || !isSet(set)) {
            return -1;
        }
        try {
            lookForFillings(s, set, false);
        } catch (Full full) {
            steps = 60000;
            return -2;
        }
        steps = tried;
        remembered = firstWay;
        return ways;
    }

    int filled(int board, int what) {
        if (remembered == null || !remembered.containsKey(board)) {
            return -100;
        }
        Lay lay = remembered.get(board);
        return what == 0 ? lay.g() : what == 1 ? lay.a() : what == 2 ? lay.b() : -100;
    }

    int steps() {
        return steps;
    }

    /** Null: FULL. */
    private List<Integer> fillingSets(Set<Q> outline) {
        List<Integer> found = new ArrayList<>();
        for (int set = 1; set < 1 << boards.size(); set++) {
            try {
                lookForFillings(outline, set, true);
            } catch (Full full) {
                return null;
            } catch (Found one) {
                found.add(set);
            }
        }
        return found;
    }

    int sets(int outline) {
        Set<Q> s = shape(true, outline);
        if (s == null) {
            return -1;
        }
        List<Integer> found = fillingSets(s);
        return found == null ? -2 : found.size();
    }

    int set(int outline, int i) {
        Set<Q> s = shape(true, outline);
        if (s == null || i < 0) {
            return -1;
        }
        List<Integer> found = fillingSets(s);
        return found == null ? -2 : i < found.size() ? found.get(i) : -1;
    }

    int needed(int outline) {
        Set<Q> s = shape(true, outline);
        if (s == null) {
            return -1;
        }
        List<Integer> found = fillingSets(s);
        if (found == null) {
            return -2;
        }
        return found.isEmpty() ? -1 : found.stream().reduce(255, (x, y) -> x & y);
    }

    // ---- THE CUT

    int cut(int one, int other) {
        cutLaid = null;
        Set<Q> s = shape(true, one);
        Set<Q> t = shape(true, other);
        if (s == null || t == null) {
            return -1;
        }
        cutWhole = base(s);
        if (byWhichImage(t, s) >= 0) {
            cutFirst = cutWhole;
            cutLaid = new int[] {byWhichImage(t, s), 0, 0};
            return 1;
        }
        for (int g = 0; g < 8; g++) {
            for (int b = -7; b <= 7; b++) {
                for (int a = -7; a <= 7; a++) {
                    Set<Q> laid = shift(image(t, g), a, b);
                    Set<Q> common = new HashSet<>(laid);
                    common.retainAll(cutWhole);
                    Set<Q> rest = new HashSet<>(cutWhole);
                    rest.removeAll(common);
                    Set<Q> otherRest = new HashSet<>(laid);
                    otherRest.removeAll(common);
                    if (rest.size() == otherRest.size() && piecesOf(common) == 1 && piecesOf(rest) == 1
                        && byWhichImage(otherRest, rest) >= 0) {
                        cutFirst = common;
                        cutLaid = new int[] {g, a, b};
                        return 2;
                    }
                }
            }
        }
        return -2;
    }

    int part(int quarter) {
        if (cutLaid == null || quarter < 0 || quarter > 255 || !cutWhole.contains(Q.of(quarter))) {
            return -1;
        }
        return cutFirst.contains(Q.of(quarter)) ? 0 : 1;
    }

    int laid(int what) {
        return cutLaid == null || what < 0 || what > 2 ? -100 : cutLaid[what];
    }

    // ---- THE TABLE and the book

    int lay(int board, int g, int a, int b) {
        Set<Q> s = shape(false, board);
        if (s == null || g < 0 || g > 7 || table.containsKey(board)
            || !isOnGrid(shift(image(s, g), a, b))) {
            return -1;
        }
        table.put(board, shift(image(s, g), a, b));
        return table.size();
    }

    boolean lift(int board) {
        return table.remove(board) != null;
    }

    int covers(int quarter) {
        if (quarter < 0 || quarter > 255) {
            return -1;
        }
        for (int k : new TreeSet<>(table.keySet())) {
            if (table.get(k).contains(Q.of(quarter))) {
                return k;
            }
        }
        return -2;
    }

    int clashes() {
        int many = 0;
        for (int i = 0; i < 256; i++) {
            Q q = Q.of(i);
            many += table.values().stream().filter(s -> s.contains(q)).count() >= 2 ? 1 : 0;
        }
        return many;
    }

    int claim(int player, int outline, int set) {
        Set<Q> s = shape(true, outline);
        if (book.size() >= 60 || player < 0 || player > 5 || s == null || !isSet(set)) {
            return -1;
        }
        book.add(new Entry(player, outline, set, judge(s, set), new HashMap<>(table), -1));
        return book.size() - 1;
    }

    private int judge(Set<Q> outline, int set) {
        Set<Q> all = new HashSet<>();
        table.values().forEach(all::addAll);
        if (table.keySet().stream().anyMatch(k -> (set >> k & 1) == 0)) {
            return 1;
        }
        if (Integer.bitCount(set) != table.size()) {
            return 2;
        }
        if (clashes() > 0) {
            return 3;
        }
        return !outline.containsAll(all) ? 4 : !all.containsAll(outline) ? 5 : 0;
    }

    int annul(int claim) {
        if (book.size() >= 60 || claim < 0 || claim >= book.size() || book.get(claim).isVoid()) {
            return -1;
        }
        book.add(new Entry(-1, -1, 0, -1, null, claim));
        return book.size() - 1;
    }

    int verdict(int claim) {
        return claim < 0 || claim >= book.size() || book.get(claim).isVoid() ? -1 : book.get(claim).verdict();
    }

    /** The numbers of the CLAIMS that are RIGHT and KNOWN by n. */
    private List<Integer> knownRight(int n) {
        List<Integer> known = new ArrayList<>();
        for (int i = 0; i < n; i++) {
            int claim = i;
            if (book.get(i).verdict() == 0
                && book.subList(0, n).stream().noneMatch(e -> e.names() == claim)) {
                known.add(i);
            }
        }
        return known;
    }

    private int firstAmong(List<Integer> known, int claim) {
        Entry e = book.get(claim);
        for (int i : known) {
            Entry f = book.get(i);
            if (f.outline() == e.outline() && f.set() == e.set() && f.lays().equals(e.lays())) {
                return i;
            }
        }
        return -1;
    }

    int first(int claim, int n) {
        if (n < 0 || n > book.size() || !knownRight(n).contains(claim)) {
            return -1;
        }
        return firstAmong(knownRight(n), claim);
    }

    int points(int player, int n) {
        if (player < 0 || player > 5 || n < 0 || n > book.size()) {
            return -1;
        }
        List<Integer> known = knownRight(n);
        int many = 0;
        for (int i : known) {
            many += book.get(i).player() == player && firstAmong(known, i) == i ? 1 : 0;
        }
        return many;
    }

    int count(int what) {
        int[] all = {boards.size(), outlines.size(), table.size(), book.size(), tape.length()};
        return what < 0 || what > 4 ? -1 : all[what];
    }
}
