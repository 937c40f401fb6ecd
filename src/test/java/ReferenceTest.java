import java.util.ArrayList;
import java.util.HashSet;
import java.util.List;
import java.util.Set;

/** All promises: long runs of calls whose answers Reference tells; the same runs every time. */
public final class ReferenceTest {
    private static final Harness T = new Harness("ReferenceTest");
    private static final int MOST_CALLS = 512;

    private long seed;
    private QuarterBoards x;
    private Reference r;
    private int calls;
    private final StringBuilder told = new StringBuilder();

    public static void main(String[] args) {
        int runs = args.length > 0 ? Integer.parseInt(args[0]) : 250;
        int from = args.length > 1 ? Integer.parseInt(args[1]) : 1;
        for (int run = from; run < from + runs && !T.hasWrong(); run++) {
            new ReferenceTest(run).go();
        }
        T.finish();
    }

    private ReferenceTest(int run) {
        seed = 7919L * run + 13;
        x = new QuarterBoards();
        r = new Reference();
        calls = 0;
    }

    private int below(int n) {
        seed = seed * 6364136223846793005L + 1442695040888963407L;
        return (int) ((seed >>> 33) % n);
    }

    private int around(int n) {
        int odd = below(60);
        return odd == 0 ? -1 : odd == 1 ? n : odd == 2 ? Integer.MAX_VALUE : odd == 3 ? Integer.MIN_VALUE : below(n);
    }

    private void same(String call, long got, long want) {
        calls++;
        if (got != want) {
            System.out.println("in a house of: " + told);
        }
        T.due(call, got, want);
    }

    private void go() {
        int kind = below(10);
        if (kind < 4) {
            for (int i = 0; i < 8 && calls < MOST_CALLS - 110; i++) {
                readText(spoiled(below(2) == 0 ? anyText() : puzzle()));
                someCalls(3);
            }
        }
        readText(rightText(kind));
        measureAll();
        while (calls < MOST_CALLS - 60 && !T.hasWrong()) {
            if (below(6) == 0) {
                solve();
            } else {
                someCalls(5);
            }
        }
    }

    private void readText(String text) {
        told.setLength(0);
        told.append(text);
        int length = (text.length() + 19) / 20 * 20;
        for (int i = 0; i < length; i += 20) {
            int[] fours = new int[5];
            for (int k = 0; k < 20; k++) {
                int at = i + k;
                fours[k / 4] = fours[k / 4] << 8 | (at < text.length() ? text.charAt(at) & 255 : 32);
            }
            same("feed", x.feed(fours[0], fours[1], fours[2], fours[3], fours[4]),
                r.feed(fours[0], fours[1], fours[2], fours[3], fours[4]));
        }
        same("back", x.back(length - text.length()), r.back(length - text.length()));
        same("read of " + text, x.read(), r.read());
        same("place behind " + text, x.place(), r.place());
    }

    // ---- texts

    private String rightText(int kind) {
        for (int i = 0; i < 100; i++) {
            String text = kind < 4 ? anyText() : kind < 7 ? puzzle() : cutPuzzle();
            Reference scratch = new Reference();
            if (scratch.readAll(text) == 0) {
                return text;
            }
        }
        return "";
    }

    private String unit(List<String> names, int depth) {
        switch (below(depth > 2 ? 6 : 8)) {
            case 0: return "cell " + below(8) + " " + below(8);
            case 1: {
                int a = below(8);
                int b = below(8);
                return "box " + a + " " + b + " " + (1 + below(8 - a)) + " " + (1 + below(8 - b));
            }
            case 2:
            case 3: return "half " + below(8) + " " + below(8) + " " + below(4);
            case 4: return "quarter " + below(8) + " " + below(8) + " " + below(4);
            case 5: return names.isEmpty() ? "cell 3 3" : names.get(below(names.size()));
            default: return "(" + sum(names, depth + 1) + ")";
        }
    }

    private String part(List<String> names, int depth) {
        StringBuilder text = new StringBuilder();
        for (int i = below(4) - 1; i > 0; i--) {
            switch (below(4)) {
                case 0: text.append("turn "); break;
                case 1: text.append("flip "); break;
                case 2: text.append("base "); break;
                default:
                    text.append("shift ").append(below(2) == 0 ? "-" : "").append(below(2)).append(' ');
                    text.append(below(2) == 0 ? "- " : "").append(below(2)).append(' ');
            }
        }
        return text + unit(names, depth);
    }

    private String sum(List<String> names, int depth) {
        StringBuilder text = new StringBuilder(part(names, depth));
        for (int i = below(4); i > 0; i--) {
            text.append("+++--&".charAt(below(6))).append(part(names, depth));
        }
        return text.toString();
    }

    private String anyText() {
        StringBuilder text = new StringBuilder();
        List<String> names = new ArrayList<>();
        int[] left = {8, 6};
        for (int i = 1 + below(10); i > 0; i--) {
            int kind = below(2);
            if (left[kind] > 0 && text.length() < 1500) {
                left[kind]--;
                String name = "n" + (char) ('a' + names.size());
                text.append(kind == 0 ? "board " : "outline ").append(name).append("=");
                text.append(sum(names, 0)).append(";");
                names.add(name);
            }
        }
        return text.substring(0, Math.min(1990, text.length()));
    }

    private String spoiled(String text) {
        StringBuilder to = new StringBuilder(text);
        String[] odd = {"cell", "(", ")", ";", "8", "0", "9 ", " ", "-", "board ", "outline ", "turn ", "na", "xy",
            "=", "?", "abcdefghi", "123", "shift 1 0 ", "+", "&", "\t", "box ", "quarter", "((((((("};
        for (int i = below(3); i >= 0 && to.length() > 0; i--) {
            int at = below(to.length());
            switch (below(10)) {
                case 0: to.setCharAt(at, (char) below(256)); break;
                case 1: to.deleteCharAt(at); break;
                case 2: to.insert(at, odd[below(odd.length)]); break;
                case 3: to.setLength(at + 1); break;
                default: replaceLike(to, at);
            }
        }
        return to.substring(0, Math.min(2000, to.length()));
    }

    /** A digit becomes another one, a letter of a name another one: mostly SYNTAX stays right. */
    private void replaceLike(StringBuilder to, int start) {
        for (int at = start; at < to.length(); at++) {
            boolean isName = at > 0 && to.charAt(at - 1) == 'n' && (at < 2 || !Character.isLetter(to.charAt(at - 2)));
            if (Character.isDigit(to.charAt(at))) {
                to.setCharAt(at, (char) ('0' + below(10)));
                return;
            }
            if (isName && Character.isLetter(to.charAt(at))) {
                to.setCharAt(at, (char) ('a' + below(12)));
                return;
            }
        }
    }

    /** Boards that together are outline o, each told turned or mirrored, with some more of both. */
    private String puzzle() {
        int w = 1 + below(3);
        int h = 1 + below(2);
        int many = 2 + below(5);
        List<Set<Reference.Q>> parts = split(w, h, many, below(3) == 0 ? 4 : below(2) == 0 ? 2 : 1);
        StringBuilder text = new StringBuilder();
        String[] words = {"", "turn ", "flip ", "turn turn ", "turn flip ", "base turn "};
        int x0 = below(9 - w);
        int y0 = below(9 - h);
        for (int i = 0; i < parts.size(); i++) {
            text.append("board b").append((char) ('a' + i)).append("=");
            text.append(words[below(words.length)]).append("(").append(quarters(parts.get(i), 0, 0)).append(");");
        }
        text.append("outline o=box ").append(x0 + " " + y0 + " " + w + " " + h).append(";");
        if (parts.size() < 8) {
            text.append("board z=").append(quarters(parts.get(0), 0, 0)).append(";");
        }
        if (parts.size() > 1) {
            text.append("outline p=shift 1 1 base(").append(quarters(parts.get(0), 0, 0)).append("+")
                .append(quarters(parts.get(1), 0, 0)).append(");");
            text.append("outline q=turn(").append(quarters(parts.get(1), 0, 0)).append(");");
        }
        return text.append("outline r=turn ").append(below(2) == 0 ? "o;" : "flip ba;").toString();
    }

    /** Splits a box of w by h CELLS; grain 4: whole CELLS, 2: halves, 1: QUARTERS. */
    private List<Set<Reference.Q>> split(int w, int h, int many, int grain) {
        List<Set<Reference.Q>> parts = new ArrayList<>();
        for (int i = 0; i < many; i++) {
            parts.add(new HashSet<>());
        }
        int last = below(many);
        for (int cell = 0; cell < w * h; cell++) {
            int skew = below(4);
            for (int d = 0; d < 4; d++) {
                last = d % grain == 0 && below(2) == 0 ? below(many) : last;
                parts.get(last).add(new Reference.Q(cell % w, cell / w, (d + skew) % 4));
            }
        }
        parts.removeIf(Set::isEmpty);
        return parts;
    }

    private static String quarters(Set<Reference.Q> s, int a, int b) {
        StringBuilder text = new StringBuilder();
        for (Reference.Q q : s) {
            text.append(text.length() == 0 ? "" : "+");
            text.append("quarter ").append(q.x() + a).append(" ").append(q.y() + b).append(" ").append(q.d());
        }
        return text.toString();
    }

    /** Outlines made of the same two parts, put together in several ways. */
    private String cutPuzzle() {
        List<Set<Reference.Q>> parts = split(1 + below(3), 1 + below(2), 2, below(2) == 0 ? 2 : 4);
        StringBuilder text = new StringBuilder();
        text.append("board p=").append(quarters(parts.get(0), 0, 0)).append(";");
        text.append("board q=").append(quarters(parts.get(parts.size() - 1), 0, 0)).append(";");
        String[] words = {"", "turn ", "flip ", "turn turn ", "turn flip ", "turn turn turn "};
        for (int i = 0; i < 6; i++) {
            text.append("outline o").append((char) ('a' + i)).append("=shift 2 2 p+shift ")
                .append(1 + below(4)).append(" ").append(1 + below(4)).append(" base ")
                .append(words[below(words.length)]).append("q;");
        }
        return text.toString();
    }

    // ---- calls

    private void measureAll() {
        for (int i = 0; i < 14; i++) {
            boolean outline = i >= 8;
            int k = outline ? i - 8 : i;
            same("area " + i, x.area(outline, k), r.area(outline, k));
            same("pieces " + i, x.pieces(outline, k), r.pieces(outline, k));
            same("outward " + i, x.corners(outline, k, false), r.corners(outline, k, false));
            same("inward " + i, x.corners(outline, k, true), r.corners(outline, k, true));
            same("bulges " + i, x.bulges(outline, k), r.bulges(outline, k));
            same("images " + i, x.images(outline, k), r.images(outline, k));
        }
    }

    /** Fills an outline, lays what is remembered on the table, and claims it. */
    private void solve() {
        int outline = around(6);
        int found = r.sets(outline);
        int set = found > 0 ? r.set(outline, below(found)) : 1 + below(255);
        same("fill(" + outline + ", " + set + ")", x.fill(outline, set), r.fill(outline, set));
        same("steps", x.steps(), r.steps());
        for (int board = 0; board < 8; board++) {
            same("lift", x.lift(board) ? 1 : 0, r.lift(board) ? 1 : 0);
            int g = x.filled(board, 0);
            int a = x.filled(board, 1);
            int b = x.filled(board, 2);
            same("filled g", g, r.filled(board, 0));
            same("filled a", a, r.filled(board, 1));
            same("filled b", b, r.filled(board, 2));
            same("lay", x.lay(board, g, a, b), r.lay(board, g, a, b));
        }
        int player = around(6);
        same("claim", x.claim(player, outline, set), r.claim(player, outline, set));
        same("shows", x.shows(), r.shows());
    }

    private void someCalls(int many) {
        for (int i = 0; i < many && calls < MOST_CALLS - 60; i++) {
            int which = below(26);
            if (which < 12) {
                askShapes(which);
            } else {
                askTable(which);
            }
        }
    }

    private void askShapes(int which) {
        boolean outline = below(2) == 0;
        int k = around(outline ? 6 : 8);
        int other = around(6);
        int g = around(8);
        int q = around(256);
        switch (which) {
            case 0: same("has " + q, x.has(outline, k, q), r.has(outline, k, q)); break;
            case 1: same("least " + k + " " + g, x.least(outline, k, g), r.least(outline, k, g)); break;
            case 2: same("alike " + k + " " + other, x.alike(k, other), r.alike(k, other)); break;
            case 3: same("sets " + k, x.sets(k), r.sets(k)); break;
            case 4: same("set " + k + " " + g, x.set(k, g), r.set(k, g)); break;
            case 5: same("needed " + k, x.needed(k), r.needed(k)); break;
            case 6: case 7:
                if (below(4) == 0) {
                    askCut(k, other);
                }
                break;
            case 8: same("fill " + k + " " + q, x.fill(k, q), r.fill(k, q)); break;
            case 9: same("filled", x.filled(k, g % 4), r.filled(k, g % 4)); break;
            case 10: same("part " + q / 4, x.part(q / 4), r.part(q / 4)); break;
            default: same("steps", x.steps(), r.steps());
        }
    }

    private void askCut(int one, int other) {
        same("cut " + one + " " + other, x.cut(one, other), r.cut(one, other));
        for (int what = -1; what <= 3; what++) {
            same("laid " + what, x.laid(what), r.laid(what));
        }
        for (int i = 0; i < 6; i++) {
            int q = around(96);
            same("part " + q, x.part(q), r.part(q));
        }
    }

    private void askTable(int which) {
        int k = around(8);
        int n = x.count(3) == 0 ? 0 : around(x.count(3) + 1);
        int claim = around(x.count(3) + 1);
        int q = around(256);
        switch (which) {
            case 12: case 13: {
                int g = around(8);
                // often close together, so that boards clash
                int a = below(2) == 0 ? below(2) : below(9) - 1;
                int b = below(2) == 0 ? below(2) : below(9) - 1;
                same("lay " + k + " " + g + " " + a + " " + b, x.lay(k, g, a, b), r.lay(k, g, a, b));
                break;
            }
            case 14: same("lift " + k, x.lift(k) ? 1 : 0, r.lift(k) ? 1 : 0); break;
            case 15: same("covers " + q, x.covers(q), r.covers(q)); break;
            case 16: same("clashes", x.clashes(), r.clashes()); break;
            case 17: same("shows", x.shows(), r.shows()); break;
            case 18: {
                int player = around(6);
                int outline = around(6);
                int set = below(3) == 0 ? q : 1 << below(8);
                same("claim", x.claim(player, outline, set), r.claim(player, outline, set));
                break;
            }
            case 19:
                if (below(3) == 0) {
                    same("annul " + claim, x.annul(claim), r.annul(claim));
                }
                break;
            case 20: same("verdict " + claim, x.verdict(claim), r.verdict(claim)); break;
            case 21: case 22: same("first " + claim + " " + n, x.first(claim, n), r.first(claim, n)); break;
            case 23: case 24: {
                int player = around(6);
                same("points " + player + " " + n, x.points(player, n), r.points(player, n));
                break;
            }
            default: {
                int what = around(5);
                same("count " + what, x.count(what), r.count(what));
            }
        }
    }
}
