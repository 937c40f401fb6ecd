import java.lang.reflect.InvocationTargetException;
import java.lang.reflect.Method;
import java.util.ArrayList;
import java.util.Comparator;
import java.util.List;

/**
 * LANGUAGE.md, rules 7 and 13: no call throws, for any arguments in any state, and the same calls
 * give the same answers. Runs of all calls with arguments from far away; the same runs every time.
 */
public final class NoThrowTest {
    private static final Harness T = new Harness("NoThrowTest");
    private static final int RUNS = 960;
    private static final int MOST_CALLS = 512;
    private static final int[] FAR = {Integer.MIN_VALUE, Integer.MIN_VALUE + 1, -1 << 29, -257, -256, -100, -64, -33,
        -32, -31, -9, -8, -7, -3, -2, -1, 8, 9, 31, 32, 33, 59, 60, 61, 63, 64, 255, 256, 257, 400, 401, 1980, 2000,
        2001, 1 << 28, 1 << 29, 1 << 30, Integer.MAX_VALUE - 1, Integer.MAX_VALUE};
    private static final String[] WORDS = {"board ", "outline ", "a", "b", "c", "=", "=", ";", ";", "+", "-", "&", "(",
        ")", "turn ", "flip ", "base ", "shift ", "cell ", "cell 0 0", "box 0 0 2 2", "half 1 1 3", "quarter 7 7 0",
        "box ", "half ", "quarter ", " 0 ", " 7 ", " 8 ", " 99 ", "123", "abcdefghi", "\t", "?", "\0", "\u00ff"};

    private final long[] seed = new long[1];
    private final List<Method> calls = new ArrayList<>();

    public static void main(String[] args) throws IllegalAccessException {
        for (int run = 0; run < RUNS; run++) {
            long one = new NoThrowTest(run).go(run);
            T.due("run " + run + " once more", new NoThrowTest(run).go(run), one);
        }
        T.finish();
    }

    private NoThrowTest(int run) {
        seed[0] = 104729L * run + 7;
        for (Method method : QuarterBoards.class.getMethods()) {
            if (method.getDeclaringClass() == QuarterBoards.class) {
                calls.add(method);
            }
        }
        calls.sort(Comparator.comparing(Method::getName));
    }

    private int below(int n) {
        seed[0] = seed[0] * 6364136223846793005L + 1442695040888963407L;
        return (int) ((seed[0] >>> 33) % n);
    }

    /** Answers a number that all answers of the run make together. */
    private long go(int run) throws IllegalAccessException {
        QuarterBoards x = new QuarterBoards();
        long sum = 0;
        int many = 0;
        while (many < MOST_CALLS - 30) {
            // most houses keep a right text for a while, so that far arguments meet boards and outlines
            if (many == 0 || below(run < RUNS / 2 ? 40 : 400) == 0) {
                x.back(x.count(4));
                sum = 31 * sum + Harness.read(x, below(3) > 0 ? rightText() : soup());
                many += 30;
            }
            // each call comes often in some runs: a full book or tape needs many of one kind
            Method call = calls.get(below(2) == 0 ? run % calls.size() : below(calls.size()));
            if (!call.getName().equals("read") || below(20) == 0) {
                sum = 31 * sum + ask(x, call, run);
                many++;
            }
        }
        return sum;
    }

    private long ask(QuarterBoards x, Method call, int run) throws IllegalAccessException {
        Class<?>[] types = call.getParameterTypes();
        Object[] arguments = new Object[types.length];
        StringBuilder told = new StringBuilder(call.getName());
        for (int i = 0; i < types.length; i++) {
            arguments[i] = types[i] == boolean.class ? (Object) (below(2) == 0) : (Object) number();
            told.append(' ').append(arguments[i]);
        }
        try {
            Object answer = call.invoke(x, arguments);
            T.due("an answer", true, true);
            return answer instanceof Integer ? (Integer) answer : (Boolean) answer ? 1 : 0;
        } catch (InvocationTargetException thrown) {
            T.due("run " + run + ": " + told + " threw " + thrown.getCause(), true, false);
            return 0;
        }
    }

    private int number() {
        return below(5) == 0 ? FAR[below(FAR.length)] : below(below(2) == 0 ? 2 : 8);
    }

    private String rightText() {
        String[] texts = {Harness.eightAndSix(), "", "board a=box 0 0 8 8;outline b=a;outline c=a;",
            "board a=half 0 0 0;board b=half 0 0 2;board c=cell 7 7;outline s=cell 3 4;outline t=box 6 6 2 1;",
            "board a=quarter 7 0 1;board b=a+cell 6 0;outline o=box 0 0 8 8-a;outline p=turn b;outline q=flip b;"};
        return texts[below(texts.length)];
    }

    private String soup() {
        StringBuilder text = new StringBuilder();
        for (int i = below(60); i > 0; i--) {
            text.append(WORDS[below(WORDS.length)]);
        }
        return text.toString();
    }
}
