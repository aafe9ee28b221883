/** Promises 1 to 8 ("---- 1 keys"): a test for each sentence that names a bound; Refusals has the refused calls. */
public final class BoundsOfKeys {
    private static final int UNKNOWN = -1, NONE = -9;
    private static final int[][] PAIRS = {
        {1, 2}, {1, 3}, {1, 4}, {1, 5}, {2, 3}, {2, 4}, {2, 5}, {3, 4}, {3, 5}, {4, 5}};

    private static void newObjects() {
        Check.test("Promise 1, \"All rests\"", () -> {
            for (int k = 0; k < 30; k++) {
                Scene.start().due(k, "moment", k, 3).due(NONE, "moment", k, 0).due(NONE, "moment", k, 1)
                    .due(NONE, "moment", k, 2);
            }
            Scene.start().dueRow("many", new int[0], 0, 0, 0, 0, 0, 0, 0).due(0, "sum").due(NONE, "help", 0)
                .due(NONE, "help", 1);
        });
        Check.test("Promise 1, \"no TIES\"", () ->
            Scene.start().due(0, "untie", 0).due(0, "untie", 1).due(0, "many", 4).due(0, "tied", 0).due(0, "tied", 1));
        Check.test("Promise 1, \"no PHRASES\"", () -> {
            Scene.start().dueNames().due(0, "prune", 0).due(0, "prune", 1);
            for (int name = 0; name < 26; name++) {
                Scene.start().due(UNKNOWN, "forget", name).due(UNKNOWN, "echo", name, 0, 0);
            }
        });
        Check.test("Promise 1, a new object beside one that has all", () -> {
            Scenes.FULL.with("price", 0, 20).with("reach", 1, 2, 24, 24, 24).due(30, "many", 0);
            Scene.start().dueRow("many", new int[0], 0, 0, 0, 0, 0, 0, 0).due(3, "price", 0, 0)
                .due(1, "reachOf", 1, 2, 0);
        });
    }

    private static void puts() {
        Check.test("Promise 2, \"what it had (NONE: it rested)\"", () -> {
            Scene s = Scene.start().did(NONE, "put", 1, 29, 0).did(0, "put", 1, 29, 59).did(59, "put", 1, 29, 59);
            s.did(59, "put", 1, 29, NONE).did(NONE, "put", 1, 29, NONE).did(NONE, "put", 1, 29, 0)
                .due(0, "put", 1, 29, NONE);
        });
        Check.test("Promise 2, \"A HAND gets a KEY at a MOMENT\": both HANDS at every MOMENT", () -> {
            Scene s = Scene.start();
            for (int m = 0; m < 30; m++) {
                s = s.did(NONE, "put", 0, m, m).did(NONE, "put", 1, m, 59 - m);
            }
            for (int m = 0; m < 30; m++) {
                s.due(m, "put", 0, m, 7).due(59 - m, "put", 1, m, 7);
            }
            s.due(30, "many", 0).due(30, "many", 1);
        });
        Check.test("Promise 2, \"or rests (NONE)\": the first, the last, all", () -> {
            Scene s = Scenes.same(24);
            s.with("put", 0, 0, NONE).due(29, "many", 0).due(1, "note", 0, 0, 0);
            s.with("put", 0, 29, NONE).due(29, "many", 0).due(28, "note", 0, 28, 0);
            for (int m = 0; m < 30; m++) {
                s = s.did(24, "put", 0, m, NONE);
            }
            s.tellsTheSameAs(Scene.start());
        });
    }

    private static void marks() {
        Check.test("Promise 3, \"what it had (NONE)\"", () ->
            Scene.of(0, 24).did(NONE, "mark", 0, 0, 1).did(1, "mark", 0, 0, 5).did(5, "mark", 0, 0, 5)
                .did(5, "mark", 0, 0, NONE).did(NONE, "mark", 0, 0, NONE).due(NONE, "mark", 0, 0, 1));
        Check.test("Promise 3, \"gets a MARK f (NONE: it has none)\": as if there had been none", () ->
            Scene.of(0, 24, 26).tellsTheSameAs(Scene.of(0, 24, 26).with("mark", 0, 1, 5).with("mark", 0, 1, NONE)));
        Check.test("Promise 3, \"The NOTE of a HAND at a MOMENT\": the first, the last, of that HAND alone", () -> {
            Scene s = Scenes.FULL.with("mark", 0, 0, NONE).with("mark", 1, 29, NONE).due(0, "many", 2);
            for (int m : new int[] {0, 29}) {
                s.did(NONE, "mark", 0, m, 2).due(2, "note", 0, m, 2).due(NONE, "note", 1, m, 2).due(1, "many", 2);
                s.did(NONE, "mark", 1, m, 2).due(2, "note", 1, m, 2).due(NONE, "note", 0, m, 2)
                    .due(NONE, "note", 1, 29 - m, 2);
            }
        });
    }

    private static void reaches() {
        Check.test("Promise 4, \"REACH of fingers f, g (f less than g): 1\": each pair, the others stay", () -> {
            int[][] first = {{1, 5, 8}, {2, 7, 10}, {3, 9, 12}, {5, 11, 14}, {1, 2, 4}, {2, 4, 6}, {3, 6, 9}, {1, 2, 3}, {2, 4, 6}, {1, 2, 4}};
            for (int p = 0; p < 10; p++) {
                Scene s = Scene.start().did(1, "reach", PAIRS[p][0], PAIRS[p][1], 0, 23, 24);
                for (int q = 0; q < 10; q++) {
                    s.dueRow("reachOf", PAIRS[q], p == q ? new int[] {0, 23, 24} : first[q]);
                }
            }
        });
        Check.test("Promise 4, \"REACH of fingers f, g\": the same again", () ->
            Scene.start().tellsTheSameAs(Scene.start().did(1, "reach", 1, 2, 1, 5, 8)));
        Check.test("Promise 5, \"LEAST (what 0), EASY (1), MOST (2)\"", () ->
            Scene.start().with("reach", 4, 5, 0, 1, 24).with("reach", 1, 2, 22, 23, 24)
                .dueRow("reachOf", new int[] {4, 5}, 0, 1, 24)
                .dueRow("reachOf", new int[] {1, 2}, 22, 23, 24).dueRow("reachOf", new int[] {1, 3}, 2, 7, 10));
    }

    private static void prices() {
        Check.test("Promise 6, \"PRICE k becomes v: what it was\": the first and the last, the others stay", () -> {
            int[] first = {3, 1, 2, 8, 3, 1, 1};
            for (int k = 0; k < 7; k++) {
                for (int v : new int[] {0, 20}) {
                    Scene s = Scene.start().did(first[k], "price", k, v);
                    for (int other = 0; other < 7; other++) {
                        s.due(other == k ? v : first[other], "price", other, 0);
                    }
                }
            }
        });
        Check.test("Promise 6, \"PRICE k becomes v\": the same again", () ->
            Scene.start().tellsTheSameAs(Scene.start().did(8, "price", 3, 8)));
        Check.test("Promise 6, all PRICES 0", () -> {
            Scene s = Scenes.same(25);
            for (int k = 0; k < 7; k++) {
                s = s.with("price", k, 0);
            }
            s.due(0, "best", 0).due(1, "finger", 0, 29).due(0, "would", 0, 3, 4).due(0, "step", 0, 0, 1, 59, 1);
        });
    }

    private static void clears() {
        Check.test("Promise 7, \"how many NOTES it had\": none, one, all", () -> {
            Scene.start().due(0, "clear", 0).due(0, "clear", 1);
            Scene.start().with("put", 1, 29, 0).did(1, "clear", 1).due(0, "clear", 1);
            Scenes.FULL.due(30, "clear", 1).did(30, "clear", 0).due(0, "many", 0).due(0, "clear", 0)
                .due(30, "clear", 1);
        });
        Check.test("Promise 7, \"All of a HAND rests\": its MARKS too, the other HAND's stay", () -> {
            Scene s = Scene.of(0, 24, 26).keys(1, 24, 26).marks(0, 1, 2).marks(1, 3, 4).with("clear", 0);
            s.due(2, "many", 2).due(2, "many", 1).due(3, "note", 1, 0, 2).keys(0, 24, 26).due(2, "many", 2);
            s.due(0, "moment", 0, 2).due(1, "moment", 1, 2).due(NONE, "moment", 0, 1);
        });
        Check.test("Promise 7, \"(its TIE is no more\": one that holds, one that does not", () -> {
            Scene.of(0, 24, 24).with("tie", 0, 0, 1, 1).with("clear", 0).due(0, "untie", 0).keys(0, 24, 24)
                .due(0, "best", 0).due(0, "many", 4);
            Scene.start().with("tie", 0, 0, 1, 1).with("clear", 0).due(0, "untie", 0).keys(0, 24, 24).due(0, "many", 4);
            Scene.start().with("tie", 1, 0, 1, 1).with("clear", 0).due(1, "untie", 1).keys(1, 24, 24).due(1, "many", 4);
        });
        Check.test("Promise 7, \"PHRASES stay)\"", () -> {
            Scene s = Scenes.FULL.with("clear", 0).with("clear", 1).dueNames(0, 25, 7, 8, 9, 10)
                .due(NONE, "echo", 25, 0, 0);
            s.keys(1, 9, 8, 7, 6).due(2, "echo", 25, 0, 0);
        });
        Check.test("Promise 7, PRICES and REACHES stay", () ->
            Scene.start().with("price", 3, 9).with("reach", 1, 2, 0, 0, 0).tellsTheSameAs(
                Scenes.same(24).with("price", 3, 9).with("reach", 1, 2, 0, 0, 0).with("clear", 0)));
    }

    private static void notes() {
        Check.test("Promise 8, \"0 its MOMENT, 1 its KEY, 2 its MARK (NONE), 3 whether it is BLACK (1, 0)\"", () -> {
            Scene s = Scene.of(0, 0).with("put", 0, 29, 58).with("mark", 0, 29, 5);
            s.dueRow("note", new int[] {0, 0}, 0, 0, NONE, 0).dueRow("note", new int[] {0, 1}, 29, 58, 5, 1);
            Scene.start().with("put", 1, 29, 1).with("mark", 1, 29, 1).dueRow("note", new int[] {1, 0}, 29, 1, 1, 1);
            Scene.start().with("put", 1, 0, 59).dueRow("note", new int[] {1, 0}, 0, 59, NONE, 0);
        });
        Check.test("Promise 8, \"Of NOTE k of a HAND\": the last one, and one more", () -> {
            Scene s = Scene.of(0, 24, 26);
            s.due(1, "note", 0, 1, 0).due(UNKNOWN, "note", 0, 2, 0).due(UNKNOWN, "note", 1, 0, 0);
            s.with("put", 0, 2, 28).due(2, "note", 0, 2, 0).due(UNKNOWN, "note", 0, 3, 0);
            Scenes.FULL.due(29, "note", 0, 29, 0).due(UNKNOWN, "note", 0, 30, 0).due(UNKNOWN, "note", 1, 30, 0);
        });
    }

    public static void main(String[] args) {
        newObjects();
        puts();
        marks();
        reaches();
        prices();
        clears();
        notes();
        Check.end();
    }
}
