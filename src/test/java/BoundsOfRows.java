/** Promises 9 to 13 ("---- 2 rows"): a test for each sentence that names a bound; Refusals has the refused calls. */
public final class BoundsOfRows {
    private static final int UNKNOWN = -1, NONE = -9;

    /** No row: the last step can't be. */
    private static Scene noRow() {
        return Scene.of(0, 24, 24, 59).marks(0, NONE, 2, 3);
    }

    private static void costsAndSteps() {
        Check.test("Promise 9, \"What a NOTE on a KEY costs with finger f\": the first and the last", () -> {
            Scene s = Scene.start();
            s.due(0, "costs", 0, 1).due(0, "costs", 0, 5).due(1, "costs", 0, 4).due(3, "costs", 1, 1)
                .due(1, "costs", 1, 5);
            s.due(0, "costs", 59, 1).due(0, "costs", 59, 5).due(1, "costs", 59, 4).due(3, "costs", 58, 1)
                .due(1, "costs", 58, 5);
            s.due(0, "costs", 58, 2).due(0, "costs", 58, 3).due(1, "costs", 58, 4);
        });
        Check.test("Promise 9, PRICES of 0 and 20", () -> {
            Scene.start().with("price", 0, 20).with("price", 1, 0).due(20, "costs", 1, 1).due(0, "costs", 1, 5)
                .due(0, "costs", 0, 1);
            Scene.start().with("price", 1, 20).with("price", 0, 0).due(20, "costs", 1, 5).due(0, "costs", 1, 1)
                .due(0, "costs", 0, 5);
        });
        Check.test("Promise 10, \"What a STEP of a HAND costs\": the first and the last KEY", () -> {
            Scene s = Scene.start();
            s.due(8, "step", 0, 0, 1, 59, 1).due(8, "step", 1, 0, 5, 59, 5).due(8, "step", 0, 59, 5, 0, 5)
                .due(8, "step", 1, 59, 1, 0, 1);
            s.due(1, "step", 0, 0, 1, 0, 1).due(1, "step", 1, 59, 5, 59, 5).due(0, "step", 0, 59, 5, 59, 1);
            s.due(0, "step", 0, 58, 1, 59, 2).due(3, "step", 1, 58, 1, 59, 2).due(0, "step", 1, 1, 1, 0, 2)
                .due(3, "step", 0, 1, 1, 0, 2);
        });
        Check.test("Promise 10, \"NONE: it can't be\"", () -> {
            Scene s = Scene.start();
            s.due(NONE, "step", 0, 0, 1, 59, 5).due(NONE, "step", 0, 0, 5, 59, 1).due(NONE, "step", 1, 0, 2, 59, 3);
            s.due(3, "step", 0, 0, 1, 14, 5).due(NONE, "step", 0, 0, 1, 15, 5).due(0, "step", 0, 0, 1, 5, 5)
                .due(NONE, "step", 0, 0, 1, 4, 5);
            s.due(7, "step", 0, 0, 4, 5, 1).due(NONE, "step", 0, 0, 4, 6, 1);
        });
    }

    private static void bests() {
        Check.test("Promise 11, \"What the BEST ROW of a HAND costs\": no NOTE, one, all", () -> {
            Scene.start().due(0, "best", 0).due(0, "best", 1);
            Scene.of(1, 24).due(0, "best", 1).due(0, "best", 0).marks(1, 4).due(1, "best", 1);
            Scenes.same(24).due(0, "best", 0);
            Scene far = Scene.start();
            for (int m = 0; m < 30; m++) {
                far = far.with("put", 1, m, m % 2 == 0 ? 0 : 59);
            }
            far.due(29 * 8, "best", 1).with("price", 3, 20).due(29 * 20, "best", 1).with("price", 3, 0)
                .due(0, "best", 1);
        });
        Check.test("Promise 11, \"NONE: there is none\"", () -> {
            noRow().due(NONE, "best", 0).due(0, "best", 1).with("mark", 0, 2, 2).due(8, "best", 0);
            noRow().with("put", 0, 2, NONE).due(0, "best", 0);
            Scene.of(0, 24, 24).with("tie", 0, 0, 1, 1).marks(0, 1, 2).due(NONE, "best", 0).with("untie", 0)
                .due(0, "best", 0);
        });
        Check.test("Promise 12, \"The finger of NOTE k in the BEST ROW\": the first and the last", () -> {
            Scene.of(0, 24).due(1, "finger", 0, 0).due(UNKNOWN, "finger", 0, 1);
            Scenes.same(24).due(1, "finger", 0, 0).due(2, "finger", 0, 29).due(UNKNOWN, "finger", 0, 30)
                .due(UNKNOWN, "finger", 1, 0);
            Scenes.same(24).with("mark", 0, 29, 5).with("mark", 0, 0, 4).due(4, "finger", 0, 0).due(1, "finger", 0, 1)
                .due(5, "finger", 0, 29);
        });
        Check.test("Promise 12, \"NONE: there is none\"", () ->
            noRow().dueFingers(0, NONE, NONE, NONE).with("mark", 0, 2, 2).dueFingers(0, 1, 2, 2));
        Check.test("Promise 12, \"The finger of NOTE k in the BEST ROW\": a TIE of all NOTES", () -> {
            Scene s = Scenes.same(24).with("tie", 0, 0, 15, 15);
            // Note 14 has a third finger, so that note 15 can have that of note 0.
            for (int k = 0; k < 30; k++) {
                s.due(k % 15 == 14 ? 3 : 1 + k % 15 % 2, "finger", 0, k);
            }
            s.due(0, "best", 0).with("mark", 0, 29, 5).due(5, "finger", 0, 14).due(2, "finger", 0, 28);
        });
    }

    private static void woulds() {
        Check.test("Promise 13, \"in which NOTE k has finger f\": the first and the last NOTE, all fingers", () -> {
            Scene s = Scenes.same(25);
            for (int f = 1; f <= 5; f++) {
                int due = new int[] {3, 0, 0, 1, 1}[f - 1];
                s.due(due, "would", 0, 0, f).due(due, "would", 0, 29, f);
                Scene.of(1, 25).due(due, "would", 1, 0, f);
            }
            s.due(UNKNOWN, "would", 0, 30, 1).due(UNKNOWN, "would", 0, 0, 0).due(UNKNOWN, "would", 0, 29, 6);
        });
        Check.test("Promise 13, \"(its MARK, if it has one, not looked at)\"", () -> {
            Scene s = Scene.of(0, 24, 24).marks(0, 4).due(1, "best", 0);
            s.due(0, "would", 0, 0, 1).due(0, "would", 0, 0, 5).due(1, "would", 0, 0, 4).due(4, "note", 0, 0, 2);
            noRow().due(8, "would", 0, 2, 2).due(NONE, "would", 0, 2, 3).due(8, "would", 0, 1, 3)
                .due(NONE, "would", 0, 0, 1);
        });
        Check.test("Promise 13, \"NONE: there is none\"", () -> {
            Scene s = Scene.of(0, 24, 59).marks(0, 2);
            for (int f = 1; f <= 5; f++) {
                s.due(f == 2 ? 8 : NONE, "would", 0, 1, f);
            }
        });
        Check.test("Promise 13, \"other MARKS hold\"", () -> {
            Scene s = Scene.of(0, 24, 24, 24).marks(0, 1, NONE, 2);
            s.due(1, "would", 0, 1, 1).due(1, "would", 0, 1, 2).due(0, "would", 0, 1, 3).due(1, "would", 0, 1, 4)
                .due(0, "would", 0, 1, 5);
        });
        Check.test("Promise 13, \"TIE ... hold[s]\": each NOTE of it", () -> {
            Scene s = Scene.of(0, 24, 24, 24, 24).with("tie", 0, 0, 2, 2);
            for (int k = 0; k < 4; k++) {
                s.due(2, "would", 0, k, 4).due(0, "would", 0, k, 5);
            }
            s = s.with("mark", 0, 2, 1);
            s.due(0, "would", 0, 0, 1).due(NONE, "would", 0, 0, 2).due(0, "would", 0, 2, 2).due(2, "would", 0, 2, 4);
            s.due(3, "would", 0, 1, 1).due(0, "would", 0, 1, 2).due(3, "would", 0, 3, 1).due(2, "would", 0, 3, 4);
            s.with("mark", 0, 0, 3).due(NONE, "best", 0).due(NONE, "would", 0, 1, 2).due(0, "would", 0, 2, 3)
                .due(0, "would", 0, 0, 1);
        });
        Check.test("Promise 13, a TIE that does not hold", () -> {
            Scene s = Scene.of(0, 24, 24, 24).with("tie", 0, 0, 2, 2).with("mark", 0, 2, 1);
            s.due(0, "would", 0, 0, 2).due(1, "would", 0, 0, 4).with("put", 0, 3, 24).due(NONE, "would", 0, 0, 2);
        });
        Check.test("Promise 13, a TIE of the last NOTE", () -> {
            Scene s = Scenes.same(24).with("tie", 0, 0, 29, 1).due(2, "would", 0, 29, 4).due(2, "would", 0, 0, 4)
                .due(1, "would", 0, 28, 4);
            s.with("tie", 0, 28, 29, 1).due(3, "would", 0, 29, 4).due(1, "would", 0, 28, 5).due(2, "would", 0, 27, 4);
        });
    }

    public static void main(String[] args) {
        costsAndSteps();
        bests();
        woulds();
        Check.end();
    }
}
