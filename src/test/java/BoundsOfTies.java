/** Promises 14 to 17 ("---- 3 ties"): a test for each sentence that names a bound; Refusals has the refused calls. */
public final class BoundsOfTies {
    private static final int OUTSIDE = -2, NONE = -9;

    private static void ties() {
        Check.test("Promise 14, \"OUTSIDE: i (0 .. 28)\"", () -> {
            Scenes.same(24).due(1, "tie", 0, 0, 29, 1).due(1, "tie", 0, 28, 29, 1);
            Scenes.same(24).refuses(OUTSIDE, "tie", 0, -1, 29, 1).refuses(OUTSIDE, "tie", 0, 29, 29, 1)
                .refuses(OUTSIDE, "tie", 0, 29, 30, 1);
        });
        Check.test("Promise 14, \"j (1 .. 29)\"", () -> {
            Scenes.same(24).due(1, "tie", 0, 0, 1, 1).due(1, "tie", 0, 0, 29, 1);
            Scenes.same(24).refuses(OUTSIDE, "tie", 0, 0, 0, 1).refuses(OUTSIDE, "tie", 0, 0, 30, 1)
                .refuses(OUTSIDE, "tie", 0, -1, 0, 1);
        });
        Check.test("Promise 14, \"n (1 .. 15)\"", () -> {
            Scenes.same(24).due(1, "tie", 0, 0, 15, 1).due(1, "tie", 0, 0, 15, 15).due(0, "tie", 0, 0, 29, 15);
            Scenes.same(24).refuses(OUTSIDE, "tie", 0, 0, 15, 0).refuses(OUTSIDE, "tie", 0, 0, 16, 16)
                .refuses(OUTSIDE, "tie", 0, 0, 29, 16);
        });
        Check.test("Promise 14, \"i + n is above j\"", () -> {
            Scenes.same(24).due(0, "tie", 0, 14, 29, 15).refuses(OUTSIDE, "tie", 0, 15, 29, 15)
                .refuses(OUTSIDE, "tie", 0, 14, 28, 15);
            Scenes.same(24).due(1, "tie", 0, 0, 1, 1).refuses(OUTSIDE, "tie", 0, 0, 1, 2)
                .refuses(OUTSIDE, "tie", 0, 1, 1, 1);
            Scenes.same(24).due(1, "tie", 0, 28, 29, 1).refuses(OUTSIDE, "tie", 0, 28, 29, 2)
                .refuses(OUTSIDE, "tie", 0, 28, 28, 1);
        });
        Check.test("Promise 14, \"1, if it holds as NOTES are now, else 0\"", () -> {
            Scene.start().due(0, "tie", 0, 0, 1, 1).due(0, "tie", 1, 0, 1, 1);
            Scene.of(0, 24).due(0, "tie", 0, 0, 1, 1).with("put", 0, 29, 24).due(1, "tie", 0, 0, 1, 1)
                .due(0, "tie", 1, 0, 1, 1);
            Scene.of(0, 24, 24, 24, 24, 24).due(1, "tie", 0, 0, 3, 2).due(0, "tie", 0, 0, 4, 2)
                .due(0, "tie", 0, 0, 3, 3);
            Scenes.FULL.with("put", 0, 29, NONE).due(0, "tie", 0, 0, 15, 15).due(1, "tie", 0, 0, 14, 14)
                .due(0, "tie", 0, 0, 29, 1);
            Scenes.FULL.due(1, "tie", 0, 0, 15, 15).due(1, "tie", 1, 13, 28, 2).due(0, "tie", 1, 13, 28, 3);
        });
        Check.test("Promise 14, \"A TIE, in place of any\"", () -> {
            Scene s = Scene.of(0, 24, 24, 24).with("tie", 0, 0, 1, 1).dueFingers(0, 1, 1, 2);
            s.did(1, "tie", 0, 1, 2, 1).dueFingers(0, 1, 2, 2).due(1, "many", 4);
            s.did(0, "tie", 0, 0, 29, 1).dueFingers(0, 1, 2, 1).due(0, "many", 4).due(1, "untie", 0);
            s.did(0, "tie", 1, 0, 1, 1).dueFingers(0, 1, 1, 2).due(1, "many", 4);
            s.changesNothing("tie", 0, 0, 1, 1);
        });
    }

    private static void unties() {
        Check.test("Promise 15, \"whether there was one (1, 0)\"", () -> {
            Scene.start().due(0, "untie", 0).due(0, "untie", 1);
            Scene.of(0, 24, 24).with("tie", 0, 0, 1, 1).due(0, "untie", 1).did(1, "untie", 0).due(0, "untie", 0);
            Scene.of(0, 24, 24).with("tie", 0, 0, 1, 1).with("tie", 0, 0, 1, 1).did(1, "untie", 0).due(0, "untie", 0);
        });
        Check.test("Promise 15, one that does not hold", () -> {
            Scene.start().with("tie", 1, 0, 1, 1).did(1, "untie", 1).did(0, "untie", 1).keys(1, 24, 24)
                .due(0, "many", 4);
            Scene.start().with("tie", 1, 14, 29, 15).due(1, "untie", 1).due(0, "untie", 0);
        });
        Check.test("Promise 15, \"The TIE of a HAND is no more\": all else is as without it", () -> {
            Scenes.RICH.with("untie", 0).tellsTheSameAs(Scenes.RICH.with("tie", 0, 0, 1, 1).with("untie", 0));
            Scene.of(0, 24, 24, 59).tellsTheSameAs(Scene.of(0, 24, 24, 59).with("tie", 0, 0, 2, 1).with("untie", 0));
        });
    }

    private static void tieds() {
        Check.test("Promise 16, \"than it would without the TIE\": no TIE, one that does not hold", () -> {
            Scene.of(0, 24, 59).due(0, "tied", 0).with("tie", 0, 0, 29, 1).due(0, "tied", 0).with("tie", 0, 0, 2, 1)
                .due(0, "tied", 0);
            Scenes.FULL.with("untie", 0).due(0, "tied", 0);
        });
        Check.test("Promise 16, \"By how much the BEST ROW costs more\": nothing, something", () -> {
            Scene s = Scene.of(0, 24, 24, 24, 59);
            s.with("tie", 0, 0, 2, 1).due(0, "tied", 0).with("tie", 0, 0, 1, 1).due(1, "tied", 0)
                .with("tie", 0, 0, 2, 2).due(2, "tied", 0);
            s.with("tie", 0, 0, 1, 1).with("price", 5, 20).due(20, "tied", 0).with("price", 5, 0).due(0, "tied", 0);
            s.with("tie", 0, 0, 1, 1).due(0, "tied", 1);
        });
        Check.test("Promise 16, \"By how much the BEST ROW costs more\": the TIE of all NOTES", () -> {
            // Thumbs that are marked on white keys are dear on the black ones that are tied to them.
            Scene s = Scene.start().with("price", 0, 20).with("price", 3, 20).with("price", 5, 0);
            for (int m = 0; m < 15; m++) {
                s = s.with("put", 0, m, 24).with("mark", 0, m, 1).with("put", 0, 15 + m, 25);
            }
            s.due(0, "best", 0).with("tie", 0, 0, 15, 15).due(20 + 15 * 20, "best", 0).due(320, "tied", 0);
        });
        Check.test("Promise 16, \"NONE: there is no ROW, or none without\"", () -> {
            Scene s = Scene.of(0, 24, 24, 59).with("tie", 0, 0, 1, 1);
            s.marks(0, 1, 2).due(NONE, "tied", 0).with("untie", 0).due(0, "tied", 0);
            s.marks(0, NONE, 1, 2).due(NONE, "tied", 0).with("untie", 0).due(NONE, "tied", 0);
        });
    }

    private static void stucks() {
        Check.test("Promise 17, \"NONE: there is a ROW\"", () -> {
            Scene.start().due(NONE, "stuck", 0).due(NONE, "stuck", 1);
            Scene.of(0, 24).marks(0, 5).due(NONE, "stuck", 0);
            Scenes.FULL.due(NONE, "stuck", 0).due(NONE, "stuck", 1);
        });
        Check.test("Promise 17, \"STUCK\": at each NOTE that can be", () -> {
            for (int k = 1; k < 30; k++) {
                Scene s = Scenes.same(24);
                for (int m = k; m < 30; m++) {
                    s = s.with("put", 0, m, 59);
                }
                s.with("mark", 0, k - 1, 2).with("mark", 0, k, 3).due(k, "stuck", 0).due(NONE, "stuck", 1);
            }
        });
        Check.test("Promise 17, \"STUCK\": MARKS far ahead", () -> {
            // Jumps keep the finger of note 0, up to the note whose mark is another one.
            Scene s = Scene.of(1, 0, 59, 0, 59, 0, 59).with("mark", 1, 0, 2).due(NONE, "stuck", 1);
            s.with("mark", 1, 5, 3).due(5, "stuck", 1).with("mark", 1, 3, 1).due(3, "stuck", 1).with("mark", 1, 1, 5)
                .due(1, "stuck", 1);
        });
        Check.test("Promise 17, \"STUCK\": 99, the TIE", () -> {
            Scene s = Scene.of(0, 24, 24).with("tie", 0, 0, 1, 1).marks(0, 1, 2).due(99, "stuck", 0);
            s.with("put", 0, 0, NONE).due(NONE, "stuck", 0);
            Scenes.same(24).with("tie", 0, 0, 15, 15).with("mark", 0, 14, 1).with("mark", 0, 29, 2).due(99, "stuck", 0);
            s.with("put", 0, 2, 59).with("mark", 0, 2, 3).due(2, "stuck", 0);
        });
    }

    public static void main(String[] args) {
        ties();
        unties();
        tieds();
        stucks();
        Check.end();
    }
}
