import java.util.ArrayList;
import java.util.Arrays;
import java.util.List;

/**
 * Calls made on a new object. Every question is asked of an object of its own, on which the calls
 * are made anew: so no question changes another one's answer, and no object is used beyond its
 * 512th call, behind which all answers are free.
 */
final class Scene {
    static final int NONE = -9;
    private static final int MOST_CALLS = 512;

    private final List<Call> calls;
    // What an object tells behind the calls; worked out when it is first asked for.
    private List<int[]> told;

    private Scene(List<Call> calls) {
        this.calls = calls;
    }

    static Scene start() {
        return new Scene(new ArrayList<>());
    }

    /** A hand has these keys at the moments from 0 on; NONE is a rest. */
    static Scene of(int hand, int... keys) {
        return start().keys(hand, keys);
    }

    Scene with(String name, int... args) {
        List<Call> more = new ArrayList<>(calls);
        more.add(new Call(name, args));
        return new Scene(more);
    }

    Scene keys(int hand, int... keys) {
        Scene scene = this;
        for (int m = 0; m < keys.length; m++) {
            if (keys[m] != NONE) {
                scene = scene.with("put", hand, m, keys[m]);
            }
        }
        return scene;
    }

    /** Marks at the moments from 0 on; NONE is none. */
    Scene marks(int hand, int... fingers) {
        Scene scene = this;
        for (int m = 0; m < fingers.length; m++) {
            if (fingers[m] != NONE) {
                scene = scene.with("mark", hand, m, fingers[m]);
            }
        }
        return scene;
    }

    /** The call, whose answer is looked at, comes behind the others. */
    Scene did(int want, String name, int... args) {
        due(want, name, args);
        return with(name, args);
    }

    int answer(String name, int... args) {
        return answersOf(List.of(new Call(name, args)))[0];
    }

    Scene due(int want, String name, int... args) {
        int got = answer(name, args);
        if (got != want) {
            Check.wrong("behind " + calls + ": " + new Call(name, args) + " answered " + got + ", due is " + want);
        }
        return this;
    }

    /** One row of answers: call(.., 0), call(.., 1) and so on, the number behind the others. */
    Scene dueRow(String name, int[] ahead, int... wants) {
        for (int k = 0; k < wants.length; k++) {
            int[] args = Arrays.copyOf(ahead, ahead.length + 1);
            args[ahead.length] = k;
            due(wants[k], name, args);
        }
        return this;
    }

    Scene dueFingers(int hand, int... fingers) {
        dueRow("finger", new int[] {hand}, fingers);
        return due(-1, "finger", hand, fingers.length);
    }

    Scene dueNames(int... names) {
        due(names.length, "many", 3);
        for (int k = 0; k < 6; k++) {
            due(k < names.length ? names[k] : NONE, "name", k);
        }
        return this;
    }

    /** The call is refused so, and all that other calls tell is as it was. */
    Scene refuses(int want, String name, int... args) {
        return due(want, name, args).changesNothing(name, args);
    }

    Scene changesNothing(String name, int... args) {
        return tellsTheSameAs(with(name, args));
    }

    /** All that calls tell behind these calls is what they tell behind those. */
    Scene tellsTheSameAs(Scene other) {
        List<int[]> mine = tale();
        List<int[]> theirs = other.tale();
        for (int t = 0; t < mine.size(); t++) {
            List<Call> questions = Tale.QUESTIONS.get(t);
            for (int q = 0; q < questions.size(); q++) {
                if (mine.get(t)[q] != theirs.get(t)[q]) {
                    Check.wrong("behind " + other.calls + ": " + questions.get(q) + " answered " + theirs.get(t)[q]
                        + ", due is " + mine.get(t)[q] + " as behind " + calls);
                    return this;
                }
            }
        }
        return this;
    }

    private List<int[]> tale() {
        if (told == null) {
            told = new ArrayList<>();
            for (List<Call> questions : Tale.QUESTIONS) {
                told.add(answersOf(questions));
            }
        }
        return told;
    }

    /** A new object on which the calls have been made. */
    KeyFingers object() {
        KeyFingers x = new KeyFingers();
        for (Call call : calls) {
            call.ask(x);
        }
        return x;
    }

    private int[] answersOf(List<Call> questions) {
        if (calls.size() + questions.size() > MOST_CALLS) {
            throw new IllegalStateException(calls.size() + questions.size() + " calls on one object");
        }
        KeyFingers x = object();
        int[] answers = new int[questions.size()];
        for (int q = 0; q < answers.length; q++) {
            answers[q] = questions.get(q).ask(x);
        }
        return answers;
    }
}
