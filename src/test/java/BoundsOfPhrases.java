/** Promises 18 to 23 ("---- 4 phrases"): a test for each sentence that names a bound; Refusals has the refused calls. */
public final class BoundsOfPhrases {
    private static final int UNKNOWN = -1, OUTSIDE = -2, STATE = -3, NONE = -9;

    private static Scene phrasesNamed(int... names) {
        Scene s = Scene.start();
        for (int name : names) {
            s = s.with("phrase", name, 0, 0, 2);
        }
        return s;
    }

    private static void comes() {
        Check.test("Promise 18, \"OUTSIDE: name\"", () -> {
            Scene.start().did(1, "phrase", 0, 0, 0, 2).did(2, "phrase", 25, 1, 0, 2).dueNames(0, 25);
            Scene.start().refuses(OUTSIDE, "phrase", -1, 0, 0, 2).refuses(OUTSIDE, "phrase", 26, 0, 0, 2);
        });
        Check.test("Promise 18, \"i (0 .. 28)\"", () -> {
            Scene s = Scenes.same(24).did(1, "phrase", 1, 0, 0, 2).did(2, "phrase", 2, 0, 28, 2)
                .due(2, "echo", 1, 0, 0).due(NONE, "echo", 2, 0, 0);
            s.due(0, "prune", 0).refuses(OUTSIDE, "phrase", 3, 0, -1, 2).refuses(OUTSIDE, "phrase", 3, 0, 29, 2);
        });
        Check.test("Promise 18, \"n\" (2 .. 12)", () -> {
            Scene s = Scenes.same(24).did(1, "phrase", 1, 0, 0, 2).did(2, "phrase", 2, 0, 0, 12)
                .due(2, "echo", 1, 0, 0).due(12, "echo", 2, 0, 0);
            s.due(2, "echo", 1, 0, 1).due(12, "echo", 2, 0, 1).refuses(OUTSIDE, "phrase", 3, 0, 0, 1)
                .refuses(OUTSIDE, "phrase", 3, 0, 0, 13);
        });
        Check.test("Promise 18, \"A PHRASE comes\": its NOTES need not be there", () -> {
            Scene.start().did(1, "phrase", 1, 0, 28, 12).did(2, "phrase", 2, 1, 0, 2).dueNames(1, 2)
                .due(NONE, "echo", 1, 0, 0);
            Scene.start().with("phrase", 2, 1, 0, 2).keys(1, 24, 26, 28, 30).due(2, "echo", 2, 0, 0);
        });
        Check.test("Promise 18, \"how many there are\": none ahead, six, one more", () -> {
            Scene s = Scene.start().due(0, "many", 3);
            for (int p = 0; p < 6; p++) {
                s = s.did(p + 1, "phrase", 25 - p, p % 2, p, 2 + p);
            }
            s.dueNames(25, 24, 23, 22, 21, 20).did(6, "phrase", 0, 0, 0, 2).dueNames(24, 23, 22, 21, 20, 0)
                .due(UNKNOWN, "echo", 25, 0, 0);
            s.did(6, "phrase", 25, 0, 0, 2).dueNames(24, 23, 22, 21, 20, 25);
            for (int p = 0; p < 6; p++) {
                s = s.did(6, "phrase", p, 0, 0, 2);
            }
            s.dueNames(0, 1, 2, 3, 4, 5);
        });
        Check.test("Promise 18, a name that there is: its NOTES and its HAND are the new ones", () -> {
            Scene s = Scene.of(0, 24, 26, 28, 30).keys(1, 30, 31, 40, 41).with("phrase", 1, 0, 0, 2)
                .due(2, "echo", 1, 0, 0);
            s.did(1, "phrase", 1, 0, 1, 2).due(NONE, "echo", 1, 0, 0).did(1, "phrase", 1, 1, 0, 2)
                .due(2, "echo", 1, 0, 0).due(1, "echo", 1, 0, 1);
        });
    }

    private static void goes() {
        Check.test("Promise 19, \"A PHRASE is no more: how many there are\": the eldest, the last, one between", () -> {
            Scene s = phrasesNamed(5, 0, 25, 3, 9, 7);
            s.did(5, "forget", 5).dueNames(0, 25, 3, 9, 7);
            s.did(5, "forget", 7).dueNames(5, 0, 25, 3, 9);
            s.did(5, "forget", 25).dueNames(5, 0, 3, 9, 7);
            s.did(5, "forget", 0).dueNames(5, 25, 3, 9, 7).did(6, "phrase", 0, 0, 0, 2).dueNames(5, 25, 3, 9, 7, 0);
        });
        Check.test("Promise 19, the only one, and again", () ->
            phrasesNamed(0).did(0, "forget", 0).dueNames().did(UNKNOWN, "forget", 0).did(1, "phrase", 0, 0, 0, 2).dueNames(0));
        Check.test("Promise 19, one that the seventh took the place of", () ->
            phrasesNamed(1, 2, 3, 4, 5, 6, 7).refuses(UNKNOWN, "forget", 1).due(5, "forget", 2).due(5, "forget", 7));
        Check.test("Promise 19, those that stay keep their NOTES", () -> {
            Scene s = Scene.of(0, 24, 26, 28, 30, 24, 26).with("phrase", 1, 1, 0, 2).with("phrase", 2, 0, 1, 2)
                .with("phrase", 3, 0, 0, 3);
            s.with("forget", 1).due(4, "echo", 2, 0, 0).due(NONE, "echo", 2, 1, 0).due(NONE, "echo", 3, 0, 0)
                .due(UNKNOWN, "echo", 1, 0, 0);
        });
    }

    private static void prunes() {
        Check.test("Promise 20, \"(less than i + n)\": just as many, one fewer", () -> {
            Scene s = Scene.of(0, 24, 26, 28).with("phrase", 1, 0, 1, 2).with("phrase", 2, 0, 2, 2)
                .with("phrase", 3, 0, 0, 3);
            s.did(1, "prune", 0).dueNames(1, 3).due(0, "prune", 0);
            s.with("put", 0, 29, 30).did(0, "prune", 0).dueNames(1, 2, 3);
            s.with("put", 0, 0, NONE).did(3, "prune", 0).dueNames();
        });
        Check.test("Promise 20, a KEY at every MOMENT", () -> {
            Scene s = Scenes.same(24).with("phrase", 1, 0, 28, 2).with("phrase", 2, 0, 28, 3)
                .with("phrase", 3, 0, 18, 12).with("phrase", 4, 0, 19, 12);
            s.did(2, "prune", 0).dueNames(1, 3).with("put", 0, 29, NONE).did(2, "prune", 0).dueNames();
        });
        Check.test("Promise 20, a HAND that rests always", () -> {
            phrasesNamed(1, 2, 3, 4, 5, 6).due(0, "prune", 1).did(6, "prune", 0).dueNames().did(0, "prune", 0)
                .did(1, "phrase", 6, 0, 0, 2).dueNames(6);
            Scene.of(0, 24).with("phrase", 1, 0, 0, 2).did(1, "prune", 0).dueNames();
            Scene.start().due(0, "prune", 0).due(0, "prune", 1);
        });
        Check.test("Promise 20, \"All PHRASES of a HAND\": the other one's stay, in their order", () -> {
            Scene s = Scene.of(0, 24, 26).with("phrase", 1, 0, 0, 3).with("phrase", 2, 1, 0, 2)
                .with("phrase", 3, 0, 0, 2)
                .with("phrase", 4, 0, 1, 2).with("phrase", 5, 1, 28, 12).with("phrase", 6, 0, 28, 12);
            s.did(3, "prune", 0).dueNames(2, 3, 5).did(2, "prune", 1).dueNames(3);
            s.did(2, "prune", 1).dueNames(1, 3, 4, 6).did(3, "prune", 0).dueNames(3);
        });
        Check.test("Promise 21, \"(the eldest first); NONE: there are not so many\"", () -> {
            Scene.start().due(NONE, "name", 0).due(NONE, "name", 5);
            phrasesNamed(9).due(9, "name", 0).due(NONE, "name", 1);
            phrasesNamed(9, 0, 25, 3, 4, 5).dueNames(9, 0, 25, 3, 4, 5).due(5, "name", 5).due(OUTSIDE, "name", 6)
                .due(OUTSIDE, "name", -1);
        });
    }

    private static void echoes() {
        Check.test("Promise 22, \"The NOTE at which the k-th ECHO of a PHRASE begins\": as many as there can be", () -> {
            Scene s = Scenes.same(24).with("phrase", 0, 0, 0, 2);
            for (int k = 0; k < 30; k++) {
                s.due(k < 27 ? 2 + k : NONE, "echo", 0, k, 0).due(k < 27 ? 2 : NONE, "echo", 0, k, 1);
            }
            s.due(OUTSIDE, "echo", 0, 30, 0).due(OUTSIDE, "echo", 0, -1, 0);
        });
        Check.test("Promise 22, \"NONE: there are not so many\"", () -> {
            Scene s = Scene.of(0, 24, 26, 28, 30).with("phrase", 0, 0, 0, 2);
            s.due(2, "echo", 0, 0, 0).due(NONE, "echo", 0, 1, 0).due(NONE, "echo", 0, 29, 0).due(NONE, "echo", 0, 1, 1);
            Scene.start().with("phrase", 0, 0, 0, 2).due(NONE, "echo", 0, 0, 0).due(NONE, "echo", 0, 0, 1)
                .due(NONE, "echo", 0, 29, 0);
        });
        Check.test("Promise 22, the longest PHRASE: its first and its last ECHO", () -> {
            Scene s = Scenes.same(24).with("phrase", 0, 0, 0, 12);
            s.due(12, "echo", 0, 0, 0).due(18, "echo", 0, 6, 0).due(NONE, "echo", 0, 7, 0).due(12, "echo", 0, 6, 1);
            s.with("put", 0, 29, 25).due(17, "echo", 0, 5, 0).due(NONE, "echo", 0, 6, 0);
            s.with("put", 0, 29, NONE).due(17, "echo", 0, 5, 0).due(NONE, "echo", 0, 6, 0);
            Scenes.same(24).with("phrase", 0, 0, 6, 12).due(18, "echo", 0, 0, 0).with("phrase", 0, 0, 7, 12)
                .due(NONE, "echo", 0, 0, 0);
        });
        Check.test("Promise 22, NOTES that go and come", () -> {
            Scene s = Scene.of(1, 24, 26, 28, 30).with("phrase", 9, 1, 0, 2).due(2, "echo", 9, 0, 0);
            s.with("clear", 1).due(NONE, "echo", 9, 0, 0).keys(1, 0, 1, 2, 3).due(2, "echo", 9, 0, 0)
                .due(2, "echo", 9, 0, 1);
            s.with("put", 1, 4, 32).due(2, "echo", 9, 0, 0).due(3, "echo", 9, 1, 0).with("put", 1, 0, NONE)
                .due(2, "echo", 9, 0, 0).due(NONE, "echo", 9, 1, 0);
        });
        Check.test("Promise 22, \"UNKNOWN: there is no PHRASE with that name\": six others", () ->
            phrasesNamed(0, 1, 2, 23, 24, 25).refuses(UNKNOWN, "echo", 3, 0, 0).refuses(UNKNOWN, "echo", 22, 0, 0)
                .due(NONE, "echo", 25, 0, 0));
    }

    private static void tieEchoes() {
        Check.test("Promise 23, \"of its k-th ECHO\": the first and the last", () -> {
            Scene s = Scenes.same(24).with("phrase", 0, 0, 0, 2);
            s.did(1, "tieEcho", 0, 0).due(1, "many", 4).with("mark", 0, 3, 5).due(5, "finger", 0, 1)
                .due(1, "finger", 0, 2);
            s.did(1, "tieEcho", 0, 26).due(1, "many", 4).with("mark", 0, 29, 5).due(5, "finger", 0, 1);
            s.refuses(STATE, "tieEcho", 0, 27).refuses(STATE, "tieEcho", 0, 29).refuses(OUTSIDE, "tieEcho", 0, 30);
        });
        Check.test("Promise 23, \"The HAND of a PHRASE gets a TIE of its NOTES and of its k-th ECHO\": the longest", () -> {
            Scene s = Scenes.same(24).with("phrase", 0, 0, 6, 12).did(1, "tieEcho", 0, 0).due(1, "many", 4);
            s.tellsTheSameAs(Scenes.same(24).with("phrase", 0, 0, 6, 12).with("tie", 0, 6, 18, 12));
            s.with("mark", 0, 17, 5).due(5, "finger", 0, 29).with("put", 0, 0, NONE).due(0, "many", 4);
        });
        Check.test("Promise 23, \"in place of any\"", () -> {
            Scene s = Scene.of(1, 24, 24, 24, 24).with("tie", 1, 0, 1, 1).with("phrase", 4, 1, 0, 2)
                .did(1, "tieEcho", 4, 0);
            s.dueFingers(1, 1, 2, 1, 2).due(1, "many", 4).did(1, "untie", 1).due(0, "untie", 1).due(0, "untie", 0);
        });
        Check.test("Promise 23, the TIE stays without the PHRASE, and without the ECHO", () -> {
            Scene s = Scene.of(0, 24, 24, 24, 24).with("phrase", 4, 0, 0, 2).with("tieEcho", 4, 0);
            s.with("forget", 4).due(1, "many", 4).with("mark", 0, 3, 5).due(5, "finger", 0, 1);
            s.with("put", 0, 3, 30).due(STATE, "tieEcho", 4, 0).due(1, "many", 4).with("mark", 0, 3, 2)
                .due(2, "finger", 0, 1);
        });
        Check.test("Promise 23, \"STATE: there is no such ECHO\": the TIE that there is stays", () ->
            Scene.of(0, 24, 24, 24).with("tie", 0, 0, 1, 1).with("phrase", 4, 0, 0, 2).refuses(STATE, "tieEcho", 4, 0)
                .due(1, "many", 4).dueFingers(0, 1, 1, 2));
    }

    public static void main(String[] args) {
        comes();
        goes();
        prunes();
        echoes();
        tieEchoes();
        Check.end();
    }
}
