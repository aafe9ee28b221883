import java.lang.reflect.Method;
import java.lang.reflect.Modifier;
import java.util.ArrayList;
import java.util.Comparator;
import java.util.List;
import java.util.Random;

/**
 * LANGUAGE.md, rule 7: "No call may ever throw or fail to end, for any arguments in any state".
 * Each call of the face is made with numbers of all sizes, also far beyond an object's 512th call,
 * where its answers are free. Rule 13: the same calls always give the same answers.
 */
public final class NeverThrows {
    private static final int[] EDGES = {
        Integer.MIN_VALUE, Integer.MIN_VALUE + 1, -60, -10, -9, -8, -3, -2, -1, 0, 1, 2, 5, 6, 7, 11, 12, 13, 14, 15, 16, 20,
        21, 24, 25, 26, 28, 29, 30, 31, 58, 59, 60, 99, 1 << 16, Integer.MAX_VALUE - 1, Integer.MAX_VALUE};
    // The dearest rows of both hands cost 2650 together.
    private static final int MOST_ANSWER = 2650;

    private static List<Method> calls() {
        List<Method> all = new ArrayList<>();
        for (Method m : KeyFingers.class.getDeclaredMethods()) {
            if (Modifier.isPublic(m.getModifiers())) {
                all.add(m);
            }
        }
        // The order in which Java tells them is free.
        all.sort(Comparator.comparing(Method::getName));
        return all;
    }

    private static int ask(KeyFingers x, Method call, Object[] args) {
        try {
            return (Integer) call.invoke(x, args);
        } catch (ReflectiveOperationException thrown) {
            throw new IllegalStateException(call.getName() + List.of(args) + " threw " + thrown.getCause());
        }
    }

    private static Object[] someOf(Random random, int count, boolean wild) {
        Object[] args = new Object[count];
        for (int a = 0; a < count; a++) {
            int kind = random.nextInt(wild ? 3 : 12);
            args[a] = kind == 0 ? EDGES[random.nextInt(EDGES.length)] : kind == 1 ? random.nextInt(60)
                : kind == 2 && wild ? random.nextInt() : random.nextInt(6);
        }
        return args;
    }

    /** What the calls of a run answered, one behind the other. */
    private static List<Integer> answersOf(long seed, int count) {
        Random random = new Random(seed);
        KeyFingers x = new KeyFingers();
        List<Method> calls = calls();
        List<Integer> answers = new ArrayList<>();
        for (int c = 0; c < count; c++) {
            Method call = calls.get(random.nextInt(calls.size()));
            boolean fills = random.nextInt(3) == 0;
            int answer = fills ? x.put(random.nextInt(2), random.nextInt(30), random.nextInt(60))
                : ask(x, call, someOf(random, call.getParameterCount(), random.nextInt(4) == 0));
            answers.add(answer);
        }
        return answers;
    }

    /** Each number of a call in turn is one of the edges, the others are small. */
    private static void edges(KeyFingers x, Method call) {
        for (int place = 0; place < call.getParameterCount(); place++) {
            for (int edge : EDGES) {
                for (int other = 0; other <= 2; other++) {
                    Object[] args = new Object[call.getParameterCount()];
                    for (int a = 0; a < args.length; a++) {
                        args[a] = a == place ? edge : other;
                    }
                    ask(x, call, args);
                }
            }
        }
    }

    public static void main(String[] args) {
        for (Method call : calls()) {
            Check.test("Rule 7, " + call.getName() + " with numbers of all sizes, nothing there, some of all, all", () -> {
                for (Scene scene : List.of(Scenes.EMPTY, Scenes.RICH, Scenes.FULL)) {
                    edges(scene.object(), call);
                }
            });
        }
        Check.test("Rule 7, long runs of calls", () -> {
            for (long seed = 1; seed <= 20; seed++) {
                for (int answer : answersOf(seed, 5000)) {
                    if (answer < KeyFingers.NONE || answer > MOST_ANSWER) {
                        Check.wrong("run " + seed + " answered " + answer);
                    }
                }
            }
        });
        Check.test("Rule 13, the same calls give the same answers", () -> {
            for (long seed = 1; seed <= 5; seed++) {
                if (!answersOf(seed, 512).equals(answersOf(seed, 512))) {
                    Check.wrong("run " + seed + " answered otherwise");
                }
            }
        });
        Check.end();
    }
}
