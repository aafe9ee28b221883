import java.util.ArrayList;
import java.util.List;

/**
 * Terms: "REFUSALS, in the order in which a call's line tells them (of several the first one)";
 * "they change nothing". For each call that can be refused: each number by itself and two at once,
 * with nothing there, with some of all, and with all that can be there.
 */
public final class Refusals {
    private static final int UNKNOWN = -1, OUTSIDE = -2, STATE = -3, NONE = -9;
    private static final int LOW = Integer.MIN_VALUE, HIGH = Integer.MAX_VALUE;

    /** A number of a call: one that is fine, those that are not, and how these are refused. */
    private record Number(String sentence, int fine, int refusal, int... wrong) {
    }

    private static Number hand(int fine) {
        return new Number("UNKNOWN: there is no such HAND", fine, UNKNOWN, -1, 2, NONE, LOW, HIGH);
    }

    private static Number moment(int fine) {
        return new Number("UNKNOWN: there is no such MOMENT", fine, UNKNOWN, -1, 30, NONE, LOW, HIGH);
    }

    private static Number noteOf(int notes) {
        return new Number("UNKNOWN: there is no such NOTE", notes - 1, UNKNOWN, -1, notes, 30, NONE, LOW, HIGH);
    }

    private static Number finger(String which, int fine) {
        return new Number("UNKNOWN: there is no such finger " + which, fine, UNKNOWN, 0, 6, -1, NONE, LOW, HIGH);
    }

    private static Number phraseNamed(int fine) {
        return new Number("UNKNOWN: there is no PHRASE with that name", fine, UNKNOWN, -1, 26, 1, 24, NONE, LOW, HIGH);
    }

    private static Number outside(String which, int fine, int... wrong) {
        int[] all = new int[wrong.length + 2];
        System.arraycopy(wrong, 0, all, 0, wrong.length);
        all[wrong.length] = LOW;
        all[wrong.length + 1] = HIGH;
        return new Number("OUTSIDE: " + which, fine, OUTSIDE, all);
    }

    private static Number key(String which) {
        return outside(which, 24, -1, 60, NONE);
    }

    private static Number what(int last) {
        return outside("what (0 .. " + last + ")", last, -1, last + 1, NONE);
    }

    /** The calls that any scene takes: no note and no phrase is asked for. */
    private static void callsOfAnyState(String where, Scene scene) {
        refusals("Promise 2, put", where, scene, "put", hand(0), moment(29), outside("key", 59, -1, 60, -8, -10));
        refusals("Promise 3, mark", where, scene, "mark", hand(0), moment(29), outside("f", 5, 0, 6, -1, -8, -10));
        refusals("Promise 4, reach", where, scene, "reach", finger("f", 1), finger("g", 3),
            outside("LEAST", 2, -1, 8, 25, NONE), outside("EASY", 7, 1, 11, -1, 25, NONE),
            outside("MOST", 10, 6, 25, -1, NONE));
        refusals("Promise 5, reachOf", where, scene, "reachOf", finger("f", 1), finger("g", 2), what(2));
        refusals("Promise 6, price", where, scene, "price", outside("k (0 .. 6)", 6, -1, 7, NONE),
            outside("v (0 .. 20)", 20, -1, 21, NONE));
        refusals("Promise 7, clear", where, scene, "clear", hand(1));
        refusals("Promise 9, costs", where, scene, "costs", key("key"), finger("f", 5));
        refusals("Promise 10, step", where, scene, "step", hand(1), key("a"), finger("f", 1), key("b"), finger("g", 5));
        refusals("Promise 11, best", where, scene, "best", hand(0));
        refusals("Promise 14, tie", where, scene, "tie", hand(1), outside("i (0 .. 28)", 0, -1, 29, 3, NONE),
            outside("j (1 .. 29)", 4, 0, 30, 1, -1, NONE), outside("n (1 .. 15), i + n is above j", 2, 0, 16, 5, -1, NONE));
        refusals("Promise 15, untie", where, scene, "untie", hand(0));
        refusals("Promise 16, tied", where, scene, "tied", hand(0));
        refusals("Promise 17, stuck", where, scene, "stuck", hand(0));
        refusals("Promise 18, phrase", where, scene, "phrase", outside("name (0 .. 25)", 25, -1, 26, NONE), hand(0),
            outside("i (0 .. 28)", 28, -1, 29, NONE), outside("n (2 .. 12)", 12, 1, 13, 0, -1, NONE));
        refusals("Promise 20, prune", where, scene, "prune", hand(0));
        refusals("Promise 21, name", where, scene, "name", outside("k (0 .. 5)", 5, -1, 6, NONE));
        refusals("Promise 24, moment", where, scene, "moment", outside("k (0 .. 29)", 29, -1, 30, NONE), what(3));
        refusals("Promise 26, swap", where, scene, "swap", moment(29));
        refusals("Promise 27, help", where, scene, "help", what(1));
        refusals("Promise 28, many", where, scene, "many", what(6));
    }

    /** The calls that ask for a note of the right hand, or for the phrase 0. */
    private static void callsOfNotesAndPhrases(String where, Scene scene, int notes) {
        refusals("Promise 8, note", where, scene, "note", hand(0), noteOf(notes), what(3));
        refusals("Promise 12, finger", where, scene, "finger", hand(0), noteOf(notes));
        refusals("Promise 13, would", where, scene, "would", hand(0), noteOf(notes), finger("f", 5));
        refusals("Promise 19, forget", where, scene, "forget", phraseNamed(0));
        refusals("Promise 22, echo", where, scene, "echo", phraseNamed(0), outside("k (0 .. 29)", 0, -1, 30, NONE), what(1));
        refusals("Promise 23, tieEcho", where, scene, "tieEcho", phraseNamed(0), outside("k (0 .. 29)", 0, -1, 30, NONE));
    }

    private static void refusals(String promise, String where, Scene scene, String call, Number... numbers) {
        Check.test(promise + ", no refusal, all numbers being as told, " + where, () -> {
            int answer = scene.answer(call, withWrong(numbers, -1, 0));
            if (answer == UNKNOWN || answer == OUTSIDE) {
                Check.wrong("answered " + answer);
            }
        });
        for (int p = 0; p < numbers.length; p++) {
            int place = p;
            Check.test(promise + ", \"" + numbers[p].sentence + "\", " + where, () -> {
                for (int wrong : numbers[place].wrong) {
                    scene.refuses(numbers[place].refusal, call, withWrong(numbers, place, wrong));
                }
            });
        }
        for (int p = 0; p < numbers.length; p++) {
            for (int q = p + 1; q < numbers.length; q++) {
                int one = p, two = q;
                Check.test(promise + ", \"of several the first one\": " + numbers[p].sentence + ", "
                    + numbers[q].sentence + ", " + where, () -> twoAtOnce(scene, call, numbers, one, two));
            }
        }
    }

    private static void twoAtOnce(Scene scene, String call, Number[] numbers, int p, int q) {
        // UNKNOWN is told ahead of OUTSIDE in each call's line, whatever the order of its numbers.
        boolean unknown = numbers[p].refusal == UNKNOWN || numbers[q].refusal == UNKNOWN;
        for (int a : firstAndLast(numbers[p].wrong)) {
            for (int b : firstAndLast(numbers[q].wrong)) {
                int[] args = withWrong(numbers, p, a);
                args[q] = b;
                scene.refuses(unknown ? UNKNOWN : OUTSIDE, call, args);
            }
        }
    }

    /** The first ones below and above what is allowed, and the greatest int. */
    private static int[] firstAndLast(int[] wrong) {
        return new int[] {wrong[0], wrong[1], wrong[wrong.length - 1]};
    }

    private static int[] withWrong(Number[] numbers, int place, int wrong) {
        int[] args = new int[numbers.length];
        for (int p = 0; p < args.length; p++) {
            args[p] = p == place ? wrong : numbers[p].fine;
        }
        return args;
    }

    private static void nothingThere() {
        Scene empty = Scenes.EMPTY;
        Check.test("Promise 8, note, \"UNKNOWN\": a HAND that rests always", () -> {
            empty.refuses(UNKNOWN, "note", 0, 0, 0).refuses(UNKNOWN, "note", 1, 0, 3);
            empty.refuses(UNKNOWN, "note", 0, 29, 4).refuses(UNKNOWN, "note", 1, -1, -1);
        });
        Check.test("Promise 12, finger, \"UNKNOWN\": a HAND that rests always", () ->
            empty.refuses(UNKNOWN, "finger", 0, 0).refuses(UNKNOWN, "finger", 1, 0).refuses(UNKNOWN, "finger", 0, 29));
        Check.test("Promise 13, would, \"UNKNOWN\": a HAND that rests always", () ->
            empty.refuses(UNKNOWN, "would", 0, 0, 1).refuses(UNKNOWN, "would", 1, 0, 5)
                .refuses(UNKNOWN, "would", 0, 0, 6));
        Check.test("Promise 19, forget, \"UNKNOWN: there is none with that name\": no PHRASE", () ->
            empty.refuses(UNKNOWN, "forget", 0).refuses(UNKNOWN, "forget", 25));
        Check.test("Promise 22, echo, \"UNKNOWN: there is no PHRASE with that name\": no PHRASE", () ->
            empty.refuses(UNKNOWN, "echo", 0, 0, 0).refuses(UNKNOWN, "echo", 25, 29, 1)
                .refuses(UNKNOWN, "echo", 0, 30, 2));
        Check.test("Promise 23, tieEcho, \"UNKNOWN: there is no PHRASE with that name\": no PHRASE", () ->
            empty.refuses(UNKNOWN, "tieEcho", 0, 0).refuses(UNKNOWN, "tieEcho", 25, 29)
                .refuses(UNKNOWN, "tieEcho", 0, 30));
    }

    private static void states() {
        Scene rich = Scenes.RICH;
        Check.test("Promise 3, mark, \"STATE: it rests\"", () -> {
            Scenes.EMPTY.refuses(STATE, "mark", 0, 0, 1).refuses(STATE, "mark", 1, 29, 5)
                .refuses(STATE, "mark", 0, 0, NONE);
            rich.refuses(STATE, "mark", 0, 2, 1).refuses(STATE, "mark", 1, 28, 5).refuses(STATE, "mark", 1, 4, NONE);
        });
        Check.test("Promise 3, mark, \"STATE\" and another: the first one", () -> {
            rich.refuses(OUTSIDE, "mark", 0, 2, 0).refuses(OUTSIDE, "mark", 0, 2, 6)
                .refuses(OUTSIDE, "mark", 0, 2, HIGH);
            rich.refuses(UNKNOWN, "mark", 2, 2, 1).refuses(UNKNOWN, "mark", -1, 2, 6)
                .refuses(UNKNOWN, "mark", 0, 30, 6);
        });
        Check.test("Promise 4, reach, \"STATE: f is not less than g\"", () -> {
            for (int f = 1; f <= 5; f++) {
                for (int g = 1; g <= f; g++) {
                    rich.refuses(STATE, "reach", f, g, 0, 0, 24);
                }
            }
        });
        Check.test("Promise 4, reach, \"STATE\" and another: the first one", () -> {
            rich.refuses(OUTSIDE, "reach", 2, 2, 4, 3, 6).refuses(OUTSIDE, "reach", 5, 1, -1, 3, 6);
            rich.refuses(OUTSIDE, "reach", 5, 4, 0, 3, 25).refuses(OUTSIDE, "reach", 3, 2, 0, 7, 6);
            rich.refuses(UNKNOWN, "reach", 6, 2, 0, 3, 6).refuses(UNKNOWN, "reach", 6, 6, 0, 3, 25);
            rich.refuses(UNKNOWN, "reach", 1, 0, 0, 3, 6).refuses(UNKNOWN, "reach", HIGH, LOW, 4, 3, 6);
        });
        Check.test("Promise 5, reachOf, \"STATE: f is not less than g\"", () -> {
            for (int f = 1; f <= 5; f++) {
                for (int g = 1; g <= f; g++) {
                    rich.refuses(STATE, "reachOf", f, g, g % 3);
                }
            }
        });
        Check.test("Promise 5, reachOf, \"STATE\" and another: the first one", () -> {
            rich.refuses(OUTSIDE, "reachOf", 2, 2, 3).refuses(OUTSIDE, "reachOf", 5, 1, -1);
            rich.refuses(UNKNOWN, "reachOf", 6, 2, 0).refuses(UNKNOWN, "reachOf", 1, 0, 3)
                .refuses(UNKNOWN, "reachOf", 6, 6, 0);
        });
        Check.test("Promise 23, tieEcho, \"STATE: there is no such ECHO\"", () -> {
            rich.refuses(STATE, "tieEcho", 3, 3).refuses(STATE, "tieEcho", 3, 29);
            rich.refuses(STATE, "tieEcho", 25, 0).refuses(STATE, "tieEcho", 0, 0);
            Scenes.EMPTY.with("phrase", 3, 0, 0, 2).refuses(STATE, "tieEcho", 3, 0).refuses(STATE, "tieEcho", 3, 29);
        });
        Check.test("Promise 23, tieEcho, \"STATE\" and another: the first one", () -> {
            rich.refuses(OUTSIDE, "tieEcho", 25, -1).refuses(OUTSIDE, "tieEcho", 0, 30)
                .refuses(OUTSIDE, "tieEcho", 0, HIGH);
            rich.refuses(UNKNOWN, "tieEcho", 1, 0).refuses(UNKNOWN, "tieEcho", 26, 29);
        });
    }

    private static void onlyTells(String promise, String call, int... args) {
        Check.test(promise + ", " + call + ": it only tells", () -> {
            for (Scene scene : List.of(Scenes.EMPTY, Scenes.RICH, Scenes.FULL)) {
                scene.changesNothing(call, args);
            }
        });
    }

    private static void tellers() {
        onlyTells("Promise 5", "reachOf", 1, 2, 0);
        onlyTells("Promise 8", "note", 0, 0, 0);
        onlyTells("Promise 9", "costs", 25, 1);
        onlyTells("Promise 10", "step", 0, 24, 1, 26, 2);
        onlyTells("Promise 11", "best", 0);
        onlyTells("Promise 12", "finger", 0, 5);
        onlyTells("Promise 13", "would", 1, 5, 4);
        onlyTells("Promise 16", "tied", 0);
        onlyTells("Promise 17", "stuck", 1);
        onlyTells("Promise 21", "name", 0);
        onlyTells("Promise 22", "echo", 0, 0, 1);
        onlyTells("Promise 24", "moment", 0, 2);
        onlyTells("Promise 25", "sum");
        onlyTells("Promise 27", "help", 0);
        onlyTells("Promise 27", "help", 1);
        onlyTells("Promise 28", "many", 4);
    }

    /** Questions of both hands' rows, up to six notes. */
    private static List<Call> questionsOfRows() {
        List<Call> all = new ArrayList<>();
        for (int hand = 0; hand < 2; hand++) {
            for (String name : List.of("best", "tied", "stuck")) {
                all.add(new Call(name, hand));
            }
            for (int k = 0; k < 6; k++) {
                all.add(new Call("finger", hand, k));
                all.add(new Call("would", hand, k, 1 + k % 5));
            }
        }
        all.add(new Call("sum"));
        all.add(new Call("help", 0));
        all.add(new Call("help", 1));
        return all;
    }

    /** Each question is asked of a new object, and then all of them of one, there and back. */
    private static void anyOrder() {
        Check.test("Promises 11 to 17, 25, 27: no answer depends on what was asked ahead of it", () -> {
            List<Call> questions = questionsOfRows();
            for (long seed = 1; seed <= 2500; seed++) {
                Scene scene = AllRows.bothHands(seed);
                KeyFingers x = scene.object();
                for (int q = 0; q < 2 * questions.size(); q++) {
                    Call call = questions.get(Math.min(q, 2 * questions.size() - 1 - q));
                    scene.due(call.ask(x), call.name(), call.args());
                }
            }
        });
    }

    private static void nothingToChange() {
        Check.test("Promise 2, put: what it has already", () ->
            Scenes.RICH.changesNothing("put", 0, 1, 26).changesNothing("put", 0, 2, NONE)
                .changesNothing("put", 1, 29, 19));
        Check.test("Promise 26, swap: two rests, a CLASH", () ->
            Scenes.RICH.changesNothing("swap", 8).changesNothing("swap", 0));
        Check.test("Promise 20, prune: nothing to prune", () ->
            Scenes.EMPTY.changesNothing("prune", 0).changesNothing("prune", 1));
        Check.test("Promise 7, clear: a HAND that rests always", () -> Scenes.EMPTY.changesNothing("clear", 0));
        Check.test("Promise 15, untie: no TIE", () -> Scenes.EMPTY.changesNothing("untie", 1));
    }

    public static void main(String[] args) {
        callsOfAnyState("nothing there", Scenes.EMPTY);
        callsOfAnyState("some of all there", Scenes.RICH);
        callsOfAnyState("all there", Scenes.FULL);
        callsOfNotesAndPhrases("some of all there", Scenes.RICH, 8);
        callsOfNotesAndPhrases("all there", Scenes.FULL, 30);
        nothingThere();
        states();
        tellers();
        anyOrder();
        nothingToChange();
        Check.end();
    }
}
