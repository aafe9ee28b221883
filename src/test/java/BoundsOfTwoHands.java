/** Promises 24 to 28 ("---- 5 two hands"): a test for each sentence that names a bound; Refusals has the refused calls. */
public final class BoundsOfTwoHands {
    private static final int UNKNOWN = -1, OUTSIDE = -2, NONE = -9;

    /** At every moment the right hand has one key and the left one another; NONE is a rest. */
    private static Scene always(int right, int left) {
        Scene s = Scene.start();
        for (int m = 0; m < 30; m++) {
            s = right == NONE ? s : s.with("put", 0, m, right);
            s = left == NONE ? s : s.with("put", 1, m, left);
        }
        return s;
    }

    private static void moments() {
        Check.test("Promise 24, \"CROSSED (what 0), a CLASH (1), at which just one HAND has a KEY (2), none (3)\": every MOMENT", () -> {
            Scene[] scenes = {always(24, 25), always(24, 24), always(24, NONE), always(NONE, NONE), always(NONE, 24), always(25, 24)};
            int[] kinds = {0, 1, 2, 3, 2, NONE};
            for (int s = 0; s < scenes.length; s++) {
                for (int what = 0; what < 4; what++) {
                    for (int k : new int[] {0, 1, 28, 29}) {
                        scenes[s].due(kinds[s] == what ? k : NONE, "moment", k, what);
                    }
                }
            }
        });
        Check.test("Promise 24, \"The k-th MOMENT\": the first and the last alone", () -> {
            for (int what = 0; what < 4; what++) {
                Scene s = what == 3 ? always(25, 24) : Scene.start();
                for (int m : new int[] {0, 29}) {
                    s = s.with("put", 0, m, what == 3 ? NONE : 24);
                    s = what == 2 ? s : s.with("put", 1, m, what == 3 ? NONE : what == 0 ? 25 : 24);
                }
                s.due(0, "moment", 0, what).due(29, "moment", 1, what).due(NONE, "moment", 2, what)
                    .due(NONE, "moment", 29, what);
            }
        });
        Check.test("Promise 24, \"OUTSIDE: k (0 .. 29), what\"", () ->
            Scene.start().due(0, "moment", 0, 3).due(29, "moment", 29, 3).due(NONE, "moment", 29, 0)
                .due(OUTSIDE, "moment", -1, 3).due(OUTSIDE, "moment", 30, 3).due(OUTSIDE, "moment", 0, -1)
                .due(OUTSIDE, "moment", 0, 4));
    }

    private static void sums() {
        Check.test("Promise 25, \"SUM\": nothing there, one HAND, both", () -> {
            Scene.start().due(0, "sum");
            Scene.of(0, 0, 59).due(8, "sum").keys(1, 0, 59, 0).due(24, "sum");
            Scene.of(1, 0, 59).due(8, "sum");
        });
        Check.test("Promise 25, \"SUM\": TIES that hold and that do not", () -> {
            Scene s = Scene.of(0, 24, 24).keys(1, 24, 24).due(0, "sum").with("tie", 0, 0, 1, 1).due(1, "sum")
                .with("tie", 1, 0, 1, 1).due(2, "sum");
            s.with("put", 1, 1, NONE).due(1, "sum").with("tie", 0, 0, 2, 1).due(0, "sum");
        });
        Check.test("Promise 25, \"SUM\": NONE", () -> {
            Scene.of(0, 24, 24).with("tie", 0, 0, 1, 1).marks(0, 1, 2).due(NONE, "sum").with("put", 1, 0, 24)
                .due(NONE, "sum");
            Scene.of(1, 24, 59).marks(1, 1, 2).due(NONE, "sum").with("clear", 1).due(0, "sum");
        });
    }

    private static void swaps() {
        Check.test("Promise 26, \"A SWAP of a MOMENT: SUM then\": the first and the last MOMENT", () -> {
            Scene s = Scene.of(0, 0).with("put", 0, 29, 59).due(8, "sum").due(0, "swap", 0).due(0, "swap", 29)
                .due(8, "swap", 1);
            s.with("swap", 0).due(1, "many", 0).due(1, "many", 1).due(0, "note", 1, 0, 1).due(8, "swap", 0)
                .due(8, "swap", 29);
            s.due(UNKNOWN, "swap", -1).due(UNKNOWN, "swap", 30);
        });
        Check.test("Promise 26, \"SUM then\": NONE", () -> {
            Scene s = Scene.of(0, 0, 59, 30).keys(1, NONE, 0).marks(0, 1, NONE, 2).due(NONE, "sum");
            s.due(8, "swap", 1).due(NONE, "swap", 29).due(8, "swap", 0);
            Scene.of(0, 24, 24, 24).keys(1, 24, 59, 24).marks(0, 2, NONE, 3).due(16, "sum").due(NONE, "swap", 1);
        });
        Check.test("Promise 26, every MOMENT, and back again", () -> {
            Scene s = always(20, 40), other = always(40, 20);
            for (int m = 0; m < 30; m++) {
                s = s.with("swap", m);
            }
            other.tellsTheSameAs(s);
            for (int m = 29; m >= 0; m--) {
                s = s.with("swap", m);
            }
            always(20, 40).tellsTheSameAs(s);
        });
        Check.test("Promise 26, TIES and PHRASES stay with their HANDS, by numbers", () -> {
            Scene s = Scene.of(0, 24, 24, 24, 24).with("tie", 0, 0, 1, 1).with("phrase", 1, 0, 0, 2).due(1, "many", 4)
                .due(2, "echo", 1, 0, 0);
            s = s.did(1, "swap", 0).due(1, "many", 4).due(NONE, "echo", 1, 0, 0).did(1, "swap", 1).due(1, "many", 4);
            s = s.did(0, "swap", 2).due(0, "many", 4).due(1, "untie", 0).due(0, "untie", 1);
            s.did(1, "swap", 0).due(1, "many", 4).due(1, "many", 3);
        });
    }

    private static void helps() {
        Check.test("Promise 27, \"the MOMENT (what 0), SUM behind it (1)\": the first and the last MOMENT", () -> {
            Scene.of(0, 59, 24, 24).due(0, "help", 0).due(0, "help", 1);
            Scene.start().with("put", 1, 27, 24).with("put", 1, 28, 24).with("put", 1, 29, 59).due(29, "help", 0)
                .due(0, "help", 1);
            Scene.of(0, 59, 24, 24).with("put", 1, 20, 59).with("put", 1, 21, 0).due(16, "sum").due(0, "help", 0)
                .due(8, "help", 1);
            Scene.of(0, 59, 24, 24).due(OUTSIDE, "help", -1).due(OUTSIDE, "help", 2);
        });
        Check.test("Promise 27, \"NONE: there is none\"", () -> {
            Scene.start().due(NONE, "help", 0).due(NONE, "help", 1);
            always(24, 24).due(NONE, "help", 0).due(NONE, "help", 1);
            always(24, NONE).due(NONE, "help", 0).due(NONE, "help", 1);
        });
        Check.test("Promise 27, HELP: nothing is changed, MARKS and all", () -> {
            Scene s = Scene.of(0, 59, 24, 24).keys(1, 24, 24, 30).marks(0, 1, 4, 3).marks(1, 2, 3, 1);
            s.changesNothing("help", 0).changesNothing("help", 1);
            Scenes.RICH.changesNothing("help", 0);
            Scenes.FULL.changesNothing("help", 1);
        });
        Check.test("Promise 27, HELP: a MARK that is no more, a TIE that holds no more", () -> {
            Scene.of(0, 24).marks(0, 4).due(1, "sum").due(0, "help", 0).due(0, "help", 1);
            Scene.of(0, 24, 24).with("tie", 0, 0, 1, 1).due(1, "sum").due(0, "help", 0).due(0, "help", 1);
            // A swap of a clash leaves the mark.
            Scene.of(0, 24).keys(1, 24).marks(0, 4).due(1, "sum").due(NONE, "help", 0).due(NONE, "help", 1);
        });
        Check.test("Promise 27, HELP: a TIE that comes to hold", () -> {
            // With a second note the left hand has a tie, for which it must jump.
            Scene s = Scene.of(0, 0, 59).keys(1, NONE, NONE, 2).with("mark", 1, 2, 2).due(8, "sum").due(0, "help", 0)
                .due(0, "help", 1);
            s = s.with("tie", 1, 0, 1, 1).due(8, "sum").due(8, "swap", 0).due(8, "swap", 1).due(16, "swap", 2);
            s.due(NONE, "help", 0).due(NONE, "help", 1);
        });
    }

    private static void manies() {
        Check.test("Promise 28, \"0 NOTES of the right HAND, 1 of the left one\": none, one, all", () -> {
            Scene.start().due(0, "many", 0).due(0, "many", 1);
            Scene.of(0, 0).due(1, "many", 0).due(0, "many", 1);
            Scene.start().with("put", 1, 29, 59).due(0, "many", 0).due(1, "many", 1);
            always(0, 59).due(30, "many", 0).due(30, "many", 1);
        });
        Check.test("Promise 28, \"2 MARKS\": none, one, all", () -> {
            Scene s = always(24, 24).due(0, "many", 2);
            for (int m = 0; m < 30; m++) {
                s = s.with("mark", 0, m, 1).with("mark", 1, m, 5);
            }
            s.due(60, "many", 2).with("mark", 1, 29, NONE).due(59, "many", 2).with("mark", 0, 0, 2).due(59, "many", 2);
            Scene.of(0, 24).marks(0, 1).due(1, "many", 2);
            Scene.of(1, 24).marks(1, 5).due(1, "many", 2);
        });
        Check.test("Promise 28, \"3 PHRASES\": none, six, one more", () -> {
            Scene.start().due(0, "many", 3);
            Scenes.FULL.due(6, "many", 3).with("phrase", 20, 0, 0, 2).due(6, "many", 3).with("forget", 20)
                .due(5, "many", 3);
        });
        Check.test("Promise 28, \"4 TIES that hold\": none, one, both", () -> {
            Scene s = Scene.start().due(0, "many", 4).with("tie", 0, 0, 1, 1).with("tie", 1, 0, 1, 1).due(0, "many", 4);
            s = s.keys(0, 24, 24).due(1, "many", 4).keys(1, 24).due(1, "many", 4).with("put", 1, 29, 24)
                .due(2, "many", 4);
            s.with("untie", 0).due(1, "many", 4).with("clear", 1).due(0, "many", 4);
        });
        Check.test("Promise 28, \"5 MOMENTS that are CROSSED, 6 CLASHES\": none, all", () -> {
            Scene.start().due(0, "many", 5).due(0, "many", 6);
            always(0, 1).due(30, "many", 5).due(0, "many", 6).with("put", 0, 29, 1).due(29, "many", 5)
                .due(1, "many", 6);
            always(59, 59).due(0, "many", 5).due(30, "many", 6).with("put", 1, 0, 58).due(0, "many", 5)
                .due(29, "many", 6);
            always(24, NONE).due(0, "many", 5).due(0, "many", 6);
            always(NONE, 24).due(0, "many", 5).due(0, "many", 6);
        });
        Check.test("Promise 28, \"OUTSIDE\"", () -> Scenes.FULL.due(OUTSIDE, "many", -1).due(OUTSIDE, "many", 7));
    }

    public static void main(String[] args) {
        moments();
        sums();
        swaps();
        helps();
        manies();
        Check.end();
    }
}
