import java.util.function.Consumer;

/**
 * Promises 1 to 28, sentence by sentence: a test for each, its answers worked out by hand or by
 * trying all rows; what a call changes is compared with other calls that bring the same about.
 * The last test looks whether a word of the document is left that no test quotes.
 */
public final class SentencesOfPromises {
    private static final int UNKNOWN = -1, OUTSIDE = -2, STATE = -3, NONE = -9;
    private static final Document DOCUMENT = new Document();
    private static final Scene RICH = Scenes.RICH;

    private static void says(String quote, Runnable body) {
        DOCUMENT.says(quote, body);
    }

    /** The same for many hands of a few notes. */
    private static void forSome(Consumer<AllRows> body) {
        AllRows.forSeeds(1001, 1300, body);
    }

    private static void newObject() {
        DOCUMENT.at("Promise 1, a new object");
        says("All rests;", () -> {
            Scene s = Scene.start();
            for (int m = 0; m < 30; m++) {
                s.due(m, "moment", m, 3).due(NONE, "put", 0, m, NONE).due(NONE, "put", 1, m, NONE)
                    .due(STATE, "mark", 0, m, 1).due(STATE, "mark", 1, m, 1);
            }
            s.due(0, "many", 0).due(0, "many", 1).due(0, "many", 2).due(0, "many", 5).due(0, "many", 6).due(0, "sum");
        });
        says("no TIES, no PHRASES.", () -> {
            Scene s = Scene.start().due(0, "many", 4).due(0, "untie", 0).due(0, "untie", 1).due(0, "many", 3).dueNames();
            for (int name = 0; name < 26; name++) {
                s.due(UNKNOWN, "forget", name);
            }
            // With keys at all moments a tie or a phrase from elsewhere would show.
            Scenes.same(24).due(0, "best", 0).due(0, "many", 4).due(0, "tied", 0).due(0, "prune", 0);
        });
    }

    private static void put() {
        DOCUMENT.at("Promise 2, put");
        says("A HAND gets a KEY at a MOMENT,", () -> {
            Scene s = RICH.with("put", 0, 2, 33);
            s.due(9, "many", 0).due(2, "note", 0, 2, 0).due(33, "note", 0, 2, 1).due(NONE, "note", 0, 2, 2)
                .due(6, "many", 1);
            // It is all the same when the key came.
            Scenes.richBehind(Scene.start().with("put", 0, 2, 33)).tellsTheSameAs(s);
            Scenes.richBehind(Scene.start().with("put", 1, 17, 8)).tellsTheSameAs(RICH.with("put", 1, 17, 8));
        });
        says("or rests (NONE):", () -> {
            RICH.with("put", 0, 2, 33).with("put", 0, 2, NONE).tellsTheSameAs(RICH);
            RICH.with("put", 0, 3, NONE).due(7, "many", 0).due(4, "note", 0, 2, 0).due(3, "moment", 1, 2)
                .due(UNKNOWN, "note", 0, 7, 0);
            RICH.changesNothing("put", 0, 2, NONE).changesNothing("put", 1, 28, NONE);
        });
        says("what it had (NONE: it rested).", () -> {
            RICH.due(28, "put", 0, 3, 40).due(28, "put", 0, 3, 28).due(28, "put", 0, 3, NONE).due(NONE, "put", 0, 2, 40)
                .due(NONE, "put", 0, 2, NONE);
            RICH.due(20, "put", 1, 3, 40).due(NONE, "put", 1, 4, 40).did(20, "put", 1, 3, 0).did(0, "put", 1, 3, NONE)
                .due(NONE, "put", 1, 3, 20);
        });
        says("UNKNOWN;", () -> RICH.refuses(UNKNOWN, "put", 2, 3, 24).refuses(UNKNOWN, "put", -1, 3, NONE)
            .refuses(UNKNOWN, "put", 0, 30, 24).refuses(UNKNOWN, "put", 1, -1, NONE));
        says("OUTSIDE: key.", () -> RICH.refuses(OUTSIDE, "put", 0, 3, 60).refuses(OUTSIDE, "put", 0, 3, -1)
            .refuses(OUTSIDE, "put", 1, 4, -8).refuses(OUTSIDE, "put", 1, 4, -10));
    }

    private static void mark() {
        DOCUMENT.at("Promise 3, mark");
        says("The NOTE of a HAND at a MOMENT gets a MARK f (NONE: it has none):", () -> {
            Scene s = RICH.with("mark", 0, 3, 4);
            s.due(4, "note", 0, 2, 2).due(5, "many", 2).due(4, "finger", 0, 2);
            Scenes.richBehind(Scene.start().with("put", 0, 3, 28).with("mark", 0, 3, 4)).tellsTheSameAs(s);
            s.with("mark", 0, 3, NONE).tellsTheSameAs(RICH);
            s.with("mark", 0, 3, 5).tellsTheSameAs(RICH.with("mark", 0, 3, 5));
            RICH.with("mark", 1, 29, NONE).due(3, "many", 2).due(NONE, "note", 1, 5, 2).due(1, "note", 1, 0, 2);
        });
        says("what it had (NONE).", () -> {
            RICH.due(NONE, "mark", 0, 3, 4).due(NONE, "mark", 0, 3, NONE).due(2, "mark", 0, 1, 4).due(2, "mark", 0, 1, 2)
                .due(2, "mark", 0, 1, NONE).due(5, "mark", 1, 29, 1);
            RICH.did(2, "mark", 0, 1, 5).did(5, "mark", 0, 1, NONE).did(NONE, "mark", 0, 1, 3).due(3, "mark", 0, 1, 3);
        });
        says("UNKNOWN: HAND, MOMENT;", () -> RICH.refuses(UNKNOWN, "mark", 2, 3, 4).refuses(UNKNOWN, "mark", -1, 3, NONE)
            .refuses(UNKNOWN, "mark", 0, 30, 4).refuses(UNKNOWN, "mark", 0, -1, 4));
        says("OUTSIDE: f;", () -> RICH.refuses(OUTSIDE, "mark", 0, 3, 0).refuses(OUTSIDE, "mark", 0, 3, 6)
            .refuses(OUTSIDE, "mark", 0, 1, -8).refuses(OUTSIDE, "mark", 0, 2, 6));
        says("STATE: it rests.", () -> RICH.refuses(STATE, "mark", 0, 2, 4).refuses(STATE, "mark", 0, 2, NONE)
            .refuses(STATE, "mark", 1, 28, 1).with("put", 0, 2, 33).due(NONE, "mark", 0, 2, 4));
    }

    private static void reach() {
        DOCUMENT.at("Promise 4, reach");
        says("REACH of fingers f, g (f less than g): 1.", () -> {
            Scene s = RICH.did(1, "reach", 1, 4, 6, 7, 15);
            s.dueRow("reachOf", new int[] {1, 4}, 6, 7, 15).dueRow("reachOf", new int[] {2, 3}, 1, 3, 5);
            s.due(8, "step", 0, 24, 1, 39, 4).due(NONE, "step", 0, 24, 1, 29, 4).due(8, "step", 1, 24, 4, 39, 1);
            Scenes.richBehind(Scene.start().with("reach", 1, 4, 6, 7, 15)).tellsTheSameAs(s);
            s.with("reach", 1, 4, 3, 9, 12).tellsTheSameAs(RICH);
        });
        says("UNKNOWN: f, g;", () -> RICH.refuses(UNKNOWN, "reach", 0, 2, 1, 2, 3).refuses(UNKNOWN, "reach", 4, 6, 1, 2, 3)
            .refuses(UNKNOWN, "reach", 6, 5, 1, 2, 3).refuses(UNKNOWN, "reach", -1, 7, 3, 2, 1));
        says("OUTSIDE: LEAST, EASY, MOST;", () -> RICH.refuses(OUTSIDE, "reach", 1, 2, -1, 2, 3)
            .refuses(OUTSIDE, "reach", 1, 2, 3, 2, 4).refuses(OUTSIDE, "reach", 1, 2, 1, 4, 3)
            .refuses(OUTSIDE, "reach", 1, 2, 1, 4, 25).refuses(OUTSIDE, "reach", 2, 1, 1, 25, 25));
        says("STATE: f is not less than g.", () -> RICH.refuses(STATE, "reach", 2, 1, 1, 2, 3)
            .refuses(STATE, "reach", 3, 3, 1, 2, 3).refuses(STATE, "reach", 5, 4, 0, 0, 24));
    }

    private static void reachOf() {
        DOCUMENT.at("Promise 5, reachOf");
        says("LEAST (what 0), EASY (1), MOST (2) of fingers f, g.", () -> {
            RICH.due(1, "reachOf", 2, 3, 0).due(3, "reachOf", 2, 3, 1).due(5, "reachOf", 2, 3, 2);
            RICH.due(3, "reachOf", 2, 5, 0).due(6, "reachOf", 2, 5, 1).due(9, "reachOf", 2, 5, 2);
            RICH.with("reach", 2, 5, 0, 8, 9).due(0, "reachOf", 2, 5, 0).due(8, "reachOf", 2, 5, 1)
                .changesNothing("reachOf", 2, 5, 1);
        });
        says("UNKNOWN;", () -> RICH.refuses(UNKNOWN, "reachOf", 0, 3, 0).refuses(UNKNOWN, "reachOf", 2, 6, 0)
            .refuses(UNKNOWN, "reachOf", 6, 2, 3));
        says("OUTSIDE;", () -> RICH.refuses(OUTSIDE, "reachOf", 2, 3, 3).refuses(OUTSIDE, "reachOf", 2, 3, -1)
            .refuses(OUTSIDE, "reachOf", 3, 2, 3));
        says("STATE: f is not less than g.", () -> RICH.refuses(STATE, "reachOf", 3, 2, 0).refuses(STATE, "reachOf", 1, 1, 1)
            .refuses(STATE, "reachOf", 5, 1, 2));
    }

    private static void price() {
        DOCUMENT.at("Promise 6, price");
        says("PRICE k becomes v: what it was.", () -> {
            Scene s = RICH.did(9, "price", 3, 4).due(4, "price", 3, 9).due(1, "price", 6, 2);
            s.due(4, "step", 0, 24, 2, 50, 2).with("price", 3, 9).tellsTheSameAs(RICH);
            Scenes.richBehind(Scene.start().with("price", 0, 7)).tellsTheSameAs(RICH.did(3, "price", 0, 7));
            RICH.did(1, "price", 6, 20).did(20, "price", 6, 0).due(0, "price", 6, 0).due(0, "costs", 24, 4);
        });
        says("OUTSIDE.", () -> RICH.refuses(OUTSIDE, "price", 7, 4).refuses(OUTSIDE, "price", -1, 4)
            .refuses(OUTSIDE, "price", 3, 21).refuses(OUTSIDE, "price", 3, -1));
    }

    private static void clear() {
        DOCUMENT.at("Promise 7, clear");
        says("All of a HAND rests", () -> {
            Scene s = RICH.with("clear", 0).due(0, "many", 0).due(6, "many", 1).due(2, "many", 2).due(0, "best", 0);
            for (int m = 0; m < 30; m++) {
                s.due(NONE, "put", 0, m, NONE).due(STATE, "mark", 0, m, 1);
            }
            // What is left is what the other calls brought.
            Scene.of(1, 24, 30, 40, 20, NONE, 22).with("put", 1, 29, 19).with("mark", 1, 0, 1).with("mark", 1, 29, 5)
                .with("tie", 1, 0, 6, 1).with("phrase", 3, 0, 0, 2).with("phrase", 25, 1, 3, 2)
                .with("phrase", 0, 0, 28, 12).with("price", 3, 9).with("reach", 2, 3, 1, 3, 5).tellsTheSameAs(s);
        });
        says("(its TIE is no more;", () -> {
            RICH.due(1, "many", 4).with("clear", 0).due(0, "untie", 0).due(0, "many", 4).due(1, "untie", 1);
            RICH.with("clear", 1).due(0, "untie", 1).due(1, "untie", 0);
            RICH.with("clear", 0).keys(0, 24, 24, 24, 24, 24, 24).due(0, "many", 4).due(0, "best", 0);
        });
        says("PHRASES stay):", () -> {
            RICH.with("clear", 0).dueNames(3, 25, 0).with("clear", 1).dueNames(3, 25, 0);
            RICH.with("clear", 0).due(NONE, "echo", 3, 0, 0).keys(0, 1, 5, 9, 13).due(2, "echo", 3, 0, 0);
        });
        says("how many NOTES it had.", () -> {
            RICH.did(8, "clear", 0).due(0, "clear", 0).due(6, "clear", 1);
            RICH.with("put", 1, 4, 9).due(7, "clear", 1).due(8, "clear", 0);
        });
        says("UNKNOWN.", () -> RICH.refuses(UNKNOWN, "clear", 2).refuses(UNKNOWN, "clear", -1));
    }

    private static void note() {
        DOCUMENT.at("Promise 8, note");
        says("Of NOTE k of a HAND: 0 its MOMENT, 1 its KEY, 2 its MARK (NONE), 3 whether it is BLACK (1, 0).", () -> {
            int[][] right = {{0, 24, NONE, 0}, {1, 26, 2, 0}, {3, 28, NONE, 0}, {4, 30, NONE, 1}, {6, 25, 1, 1},
                {7, 27, NONE, 1}, {10, 24, NONE, 0}, {29, 26, NONE, 0}};
            int[][] left = {{0, 24, 1, 0}, {1, 30, NONE, 1}, {2, 40, NONE, 0}, {3, 20, NONE, 1}, {5, 22, NONE, 1},
                {29, 19, 5, 0}};
            for (int k = 0; k < right.length; k++) {
                RICH.dueRow("note", new int[] {0, k}, right[k]);
            }
            for (int k = 0; k < left.length; k++) {
                RICH.dueRow("note", new int[] {1, k}, left[k]);
            }
        });
        says("UNKNOWN;", () -> RICH.refuses(UNKNOWN, "note", 2, 0, 0).refuses(UNKNOWN, "note", 0, 8, 0)
            .refuses(UNKNOWN, "note", 1, 6, 0).refuses(UNKNOWN, "note", 0, -1, 0).refuses(UNKNOWN, "note", -1, 0, 4));
        says("OUTSIDE.", () -> RICH.refuses(OUTSIDE, "note", 0, 0, 4).refuses(OUTSIDE, "note", 1, 5, -1));
    }

    private static void costsAndStep() {
        DOCUMENT.at("Promise 9, costs");
        says("What a NOTE on a KEY costs with finger f.", () -> {
            int[][] due = {{0, 0, 0, 1, 0}, {3, 0, 0, 1, 1}, {0, 0, 0, 1, 0}, {3, 0, 0, 1, 1}, {0, 0, 0, 1, 0}};
            for (int k = 0; k < due.length; k++) {
                for (int f = 1; f <= 5; f++) {
                    RICH.due(due[k][f - 1], "costs", 36 + k, f);
                    Scene.of(1, 36 + k).due(due[k][f - 1], "would", 1, 0, f);
                }
            }
            RICH.with("price", 0, 6).with("price", 1, 5).with("price", 6, 4).due(6, "costs", 37, 1).due(5, "costs", 37, 5)
                .due(4, "costs", 37, 4).due(4, "costs", 36, 4).due(0, "costs", 36, 1).due(0, "costs", 37, 3);
        });
        says("UNKNOWN: f;", () -> RICH.refuses(UNKNOWN, "costs", 36, 0).refuses(UNKNOWN, "costs", 36, 6)
            .refuses(UNKNOWN, "costs", 60, 6));
        says("OUTSIDE: key.", () -> RICH.refuses(OUTSIDE, "costs", 60, 1).refuses(OUTSIDE, "costs", -1, 5)
            .refuses(OUTSIDE, "costs", NONE, 4));
        DOCUMENT.at("Promise 10, step");
        says("What a STEP of a HAND costs;", () -> {
            Scene s = Scene.start();
            s.due(0, "step", 0, 36, 1, 40, 3).due(4, "step", 0, 36, 2, 38, 1).due(2, "step", 0, 36, 1, 45, 3)
                .due(8, "step", 0, 36, 3, 38, 3).due(3, "step", 0, 37, 3, 38, 3).due(1, "step", 0, 36, 3, 36, 3)
                .due(0, "step", 0, 36, 3, 36, 2);
            s.due(0, "step", 1, 40, 1, 36, 3).due(4, "step", 1, 38, 2, 36, 1).due(2, "step", 1, 45, 1, 36, 3)
                .due(6, "step", 1, 36, 1, 40, 3);
            // The reach that RICH told, and its jump.
            RICH.due(2, "step", 0, 36, 2, 41, 3).due(NONE, "step", 0, 36, 2, 42, 3).due(9, "step", 0, 36, 2, 42, 2);
        });
        says("NONE: it can't be.", () -> Scene.start().due(NONE, "step", 0, 36, 1, 37, 3).due(NONE, "step", 0, 36, 1, 47, 3)
            .due(NONE, "step", 0, 36, 3, 38, 2).due(NONE, "step", 0, 36, 5, 38, 1).due(NONE, "step", 1, 36, 2, 38, 3)
            .due(NONE, "step", 0, 36, 2, 42, 1));
        says("UNKNOWN: HAND, f, g;", () -> RICH.refuses(UNKNOWN, "step", 2, 36, 1, 38, 2)
            .refuses(UNKNOWN, "step", -1, 36, 1, 38, 2).refuses(UNKNOWN, "step", 0, 36, 0, 38, 2)
            .refuses(UNKNOWN, "step", 0, 36, 1, 38, 6).refuses(UNKNOWN, "step", 0, 60, 6, 60, 1));
        says("OUTSIDE: a, b.", () -> RICH.refuses(OUTSIDE, "step", 0, 60, 1, 38, 2).refuses(OUTSIDE, "step", 0, -1, 1, 38, 2)
            .refuses(OUTSIDE, "step", 1, 36, 1, 60, 2).refuses(OUTSIDE, "step", 1, 36, 1, NONE, 2));
    }

    private static void bestAndFinger() {
        DOCUMENT.at("Promise 11, best");
        says("What the BEST ROW of a HAND costs;", () -> {
            Scene.of(0, 24, 26, 28, 29, 31, 33, 35, 36).due(4, "best", 0).due(0, "best", 1);
            Scene.of(1, 24, 26, 28, 29, 31, 33, 35, 36).due(5, "best", 1).due(0, "best", 0);
            forSome(rows -> rows.scene().due(rows.cost(), "best", rows.hand).due(0, "best", 1 - rows.hand));
        });
        says("NONE: there is none.", () -> {
            int[] seen = new int[1];
            forSome(rows -> {
                seen[0] += rows.best() == null ? 1 : 0;
                rows.scene().due(rows.best() == null ? NONE : rows.cost(), "best", rows.hand);
            });
            Check.due("some of the hands tried have no row", seen[0] > 20 ? 1 : 0, 1);
            Scene.of(0, 24, 26).marks(0, 3, 2).due(NONE, "best", 0).with("mark", 0, 1, NONE).due(0, "best", 0);
        });
        says("UNKNOWN.", () -> RICH.refuses(UNKNOWN, "best", 2).refuses(UNKNOWN, "best", -1));
        DOCUMENT.at("Promise 12, finger");
        says("The finger of NOTE k in the BEST ROW of a HAND;", () -> {
            // A scale: the thumb goes under by one key, ahead of the fourth note.
            Scene.of(0, 24, 26, 28, 29, 31, 33, 35, 36).dueFingers(0, 1, 2, 3, 1, 2, 3, 4, 5);
            // Going up, the left hand's fourth goes over its thumb by two keys; 5 4 3 2 1 3 2 1 costs as much.
            Scene.of(1, 24, 26, 28, 29, 31, 33, 35, 36).dueFingers(1, 5, 3, 2, 1, 4, 3, 2, 1);
            forSome(rows -> {
                if (rows.best() != null) {
                    rows.scene().dueFingers(rows.hand, rows.best());
                }
            });
        });
        says("NONE: there is none.", () -> {
            Scene.of(0, 24, 26, 28).marks(0, 3, 2).dueFingers(0, NONE, NONE, NONE);
            forSome(rows -> {
                for (int k = 0; rows.best() == null && k < rows.keys.length; k++) {
                    rows.scene().due(NONE, "finger", rows.hand, k);
                }
            });
        });
        says("UNKNOWN.", () -> RICH.refuses(UNKNOWN, "finger", 2, 0).refuses(UNKNOWN, "finger", 0, 8)
            .refuses(UNKNOWN, "finger", 1, 6).refuses(UNKNOWN, "finger", 0, -1));
    }

    private static void would() {
        DOCUMENT.at("Promise 13, would");
        says("What the least ROW costs in which NOTE k has finger f", () -> forSome(rows -> {
            for (int k = 0; k < rows.keys.length; k++) {
                for (int f = 1; f <= 5; f++) {
                    if (rows.marks[k] == NONE) {
                        rows.scene().due(rows.having(k, f).cost(), "would", rows.hand, k, f);
                    }
                }
            }
        }));
        says("(its MARK, if it has one, not looked at);", () -> {
            forSome(rows -> {
                for (int k = 0; k < rows.keys.length; k++) {
                    for (int f = 1; f <= 5 && rows.marks[k] != NONE; f++) {
                        Scene s = rows.scene();
                        s.due(rows.having(k, f).cost(), "would", rows.hand, k, f);
                        s.due(s.with("mark", rows.hand, k, NONE).answer("would", rows.hand, k, f), "would", rows.hand, k, f);
                    }
                }
            });
            Scene.of(0, 24, 26).marks(0, 3, 2).due(0, "would", 0, 0, 1).due(4, "would", 0, 1, 1).due(3, "note", 0, 0, 2);
        });
        says("NONE: there is none.", () -> Scene.of(0, 24, 26).marks(0, 3, 2).due(NONE, "would", 0, 0, 3)
            .due(NONE, "would", 0, 0, 4).due(NONE, "would", 0, 1, 2).keys(0, 24, 26, 28).due(NONE, "would", 0, 2, 1));
        says("(TIE, other MARKS hold.)", () -> {
            Scene s = Scene.of(0, 24, 26, 24, 26).with("tie", 0, 0, 2, 2).marks(0, NONE, NONE, NONE, 3);
            // Notes 1 and 3 have the third, so notes 0 and 2 the thumb or the second.
            s.due(0, "best", 0).dueFingers(0, 1, 3, 1, 3).due(NONE, "would", 0, 1, 2).due(0, "would", 0, 2, 2);
            s.due(0, "would", 0, 3, 2).due(3, "note", 0, 3, 2).due(NONE, "would", 0, 0, 5);
            s.with("untie", 0).due(0, "would", 0, 1, 2);
        });
        says("UNKNOWN.", () -> RICH.refuses(UNKNOWN, "would", 2, 0, 1).refuses(UNKNOWN, "would", 0, 8, 1)
            .refuses(UNKNOWN, "would", 1, -1, 1).refuses(UNKNOWN, "would", 0, 0, 0).refuses(UNKNOWN, "would", 0, 0, 6));
    }

    private static void tieAndUntie() {
        DOCUMENT.at("Promise 14, tie");
        says("A TIE, in place of any:", () -> {
            Scene s = RICH.with("tie", 0, 1, 3, 2);
            RICH.with("untie", 0).with("tie", 0, 1, 3, 2).tellsTheSameAs(s);
            s.with("tie", 0, 0, 4, 2).tellsTheSameAs(RICH);
            s.due(2, "finger", 0, 3).due(1, "untie", 0).due(1, "untie", 1).with("untie", 0).due(0, "untie", 0);
            s.with("tie", 1, 0, 6, 1).tellsTheSameAs(s);
        });
        says("1, if it holds as NOTES are now, else 0.", () -> {
            for (int j = 1; j <= 9; j++) {
                for (int n = 1; n <= j; n++) {
                    RICH.due(j + n <= 8 ? 1 : 0, "tie", 0, 0, j, n).due(j + n <= 6 ? 1 : 0, "tie", 1, j - n, j, n);
                }
            }
        });
        says("UNKNOWN: HAND;", () -> RICH.refuses(UNKNOWN, "tie", 2, 0, 1, 1).refuses(UNKNOWN, "tie", -1, 29, 0, 16));
        says("OUTSIDE: i (0 .. 28), j (1 .. 29), n (1 .. 15), i + n is above j.", () -> {
            for (int i = -1; i <= 30; i++) {
                for (int j = -1; j <= 31; j++) {
                    for (int n = -1; n <= 17; n++) {
                        boolean may = i >= 0 && i <= 28 && j >= 1 && j <= 29 && n >= 1 && n <= 15 && i + n <= j;
                        if (may) {
                            RICH.due(j + n <= 8 ? 1 : 0, "tie", 0, i, j, n);
                        } else {
                            RICH.due(OUTSIDE, "tie", 0, i, j, n);
                        }
                    }
                }
            }
            RICH.refuses(OUTSIDE, "tie", 0, -1, 4, 2).refuses(OUTSIDE, "tie", 0, 0, 30, 2)
                .refuses(OUTSIDE, "tie", 0, 0, 20, 16).refuses(OUTSIDE, "tie", 0, 3, 4, 2)
                .refuses(OUTSIDE, "tie", 0, Integer.MAX_VALUE, 29, 1);
        });
        DOCUMENT.at("Promise 15, untie");
        says("The TIE of a HAND is no more:", () -> {
            RICH.with("untie", 0).due(0, "many", 4).due(0, "tied", 0).due(1, "untie", 1);
            Scene.of(0, 24, 26, 24).with("tie", 0, 0, 1, 1).with("phrase", 1, 0, 0, 2).with("untie", 0)
                .tellsTheSameAs(Scene.of(0, 24, 26, 24).with("phrase", 1, 0, 0, 2));
        });
        says("whether there was one (1, 0).", () -> {
            RICH.did(1, "untie", 0).did(0, "untie", 0).did(1, "untie", 1).due(0, "untie", 1);
            RICH.with("clear", 0).due(0, "untie", 0).with("tie", 0, 0, 1, 1).due(1, "untie", 0);
        });
        says("UNKNOWN.", () -> RICH.refuses(UNKNOWN, "untie", 2).refuses(UNKNOWN, "untie", -1));
    }

    private static void tiedAndStuck() {
        DOCUMENT.at("Promise 16, tied");
        says("By how much the BEST ROW costs more than it would without the TIE;", () -> forSome(rows -> {
            if (rows.best() != null) {
                rows.scene().due(rows.cost() - rows.untied().cost(), "tied", rows.hand).due(0, "tied", 1 - rows.hand);
            }
        }));
        says("NONE: there is no ROW, or none without.", () -> {
            int[] seen = new int[1];
            forSome(rows -> {
                if (rows.best() == null) {
                    rows.scene().due(NONE, "tied", rows.hand);
                    seen[0] += rows.untied().best() == null ? 0 : 1;
                }
            });
            Check.due("some of the hands tried have a row without their tie alone", seen[0] > 5 ? 1 : 0, 1);
            Scene.of(0, 24, 26).marks(0, 3, 2).due(NONE, "tied", 0).with("tie", 0, 0, 1, 1).due(NONE, "tied", 0);
        });
        says("UNKNOWN.", () -> RICH.refuses(UNKNOWN, "tied", 2).refuses(UNKNOWN, "tied", -1));
        DOCUMENT.at("Promise 17, stuck");
        says("STUCK;", () -> {
            Scene s = Scene.of(0, 24, 26, 28, 31, 33).marks(0, NONE, 3, 2);
            s.due(2, "stuck", 0).with("put", 0, 0, NONE).due(1, "stuck", 0).with("put", 0, 10, 40).due(1, "stuck", 0);
            s.with("mark", 0, 2, NONE).due(NONE, "stuck", 0).with("tie", 0, 1, 2, 1).with("mark", 0, 2, 4)
                .due(99, "stuck", 0);
            forSome(rows -> {
                if (rows.best() == null) {
                    rows.scene().due(rows.untied().best() == null ? firstWithout(rows) : 99, "stuck", rows.hand);
                }
            });
        });
        says("NONE: there is a ROW.", () -> forSome(rows -> {
            boolean stuck = rows.scene().answer("stuck", rows.hand) != NONE;
            Check.due("stuck", stuck ? 1 : 0, rows.best() == null ? 1 : 0);
            rows.scene().due(NONE, "stuck", 1 - rows.hand);
        }));
        says("UNKNOWN.", () -> RICH.refuses(UNKNOWN, "stuck", 2).refuses(UNKNOWN, "stuck", -1));
    }

    private static int firstWithout(AllRows rows) {
        int k = 0;
        while (rows.upTo(k).best() != null) {
            k++;
        }
        return k;
    }

    private static void phraseAndForget() {
        DOCUMENT.at("Promise 18, phrase");
        says("A PHRASE comes: how many there are.", () -> {
            Scene s = RICH.did(4, "phrase", 9, 1, 0, 3).dueNames(3, 25, 0, 9).did(5, "phrase", 1, 0, 4, 2)
                .dueNames(3, 25, 0, 9, 1).due(6, "echo", 1, 0, 0);
            s.did(5, "phrase", 3, 0, 4, 2).dueNames(25, 0, 9, 1, 3).due(6, "echo", 3, 0, 0);
            s.did(6, "phrase", 2, 0, 0, 2).did(6, "phrase", 4, 0, 0, 2).dueNames(25, 0, 9, 1, 2, 4);
            s.with("forget", 9).with("forget", 1).tellsTheSameAs(RICH);
        });
        says("UNKNOWN: HAND;", () -> RICH.refuses(UNKNOWN, "phrase", 3, 2, 0, 2).refuses(UNKNOWN, "phrase", 26, -1, 29, 1));
        says("OUTSIDE: name, i (0 .. 28), n.", () -> {
            for (int n = 0; n <= 14; n++) {
                for (int i = -1; i <= 30; i++) {
                    boolean may = i >= 0 && i <= 28 && n >= 2 && n <= 12;
                    RICH.due(may ? 4 : OUTSIDE, "phrase", 9, 0, i, n).due(may ? 3 : OUTSIDE, "phrase", 3, 1, i, n);
                }
            }
            RICH.refuses(OUTSIDE, "phrase", 26, 0, 0, 2).refuses(OUTSIDE, "phrase", -1, 1, 0, 2)
                .refuses(OUTSIDE, "phrase", 3, 0, 29, 2).refuses(OUTSIDE, "phrase", 3, 0, 0, 13);
        });
        DOCUMENT.at("Promise 19, forget");
        says("A PHRASE is no more: how many there are.", () -> {
            RICH.did(2, "forget", 25).dueNames(3, 0).did(1, "forget", 3).dueNames(0).did(0, "forget", 0).dueNames();
            RICH.with("phrase", 9, 1, 0, 2).did(3, "forget", 9).tellsTheSameAs(RICH);
            RICH.with("forget", 25).due(UNKNOWN, "echo", 25, 0, 0).due(2, "echo", 3, 0, 0).due(1, "many", 4);
            // Those behind it keep their notes: 25 27, which come again as 24 26, and 24 26 28, which do not.
            RICH.with("phrase", 9, 0, 4, 2).with("phrase", 8, 0, 0, 3).did(4, "forget", 3).dueNames(25, 0, 9, 8)
                .due(6, "echo", 9, 0, 0).due(NONE, "echo", 8, 0, 0).did(3, "forget", 0).due(6, "echo", 9, 0, 0)
                .due(NONE, "echo", 8, 0, 0).due(0, "prune", 0);
        });
        says("UNKNOWN: there is none with that name.", () -> {
            for (int name = -1; name <= 26; name++) {
                boolean there = name == 3 || name == 25 || name == 0;
                RICH.due(there ? 2 : UNKNOWN, "forget", name);
            }
            RICH.refuses(UNKNOWN, "forget", 9).refuses(UNKNOWN, "forget", 26).refuses(UNKNOWN, "forget", NONE)
                .with("forget", 3).refuses(UNKNOWN, "forget", 3);
        });
    }

    private static void pruneAndName() {
        DOCUMENT.at("Promise 20, prune");
        says("All PHRASES of a HAND that has fewer NOTES than they have (less than i + n) are no more:", () -> {
            RICH.with("prune", 0).dueNames(3, 25).with("prune", 1).dueNames(3, 25);
            RICH.with("prune", 0).tellsTheSameAs(RICH.with("forget", 0));
            RICH.with("put", 1, 29, NONE).with("prune", 1).dueNames(3, 25, 0).with("put", 1, 0, NONE).with("prune", 1)
                .dueNames(3, 0);
            for (int i = 0; i <= 9; i++) {
                for (int n = 2; n <= 9; n++) {
                    Scene s = RICH.with("phrase", 9, 0, i, n).with("prune", 0);
                    s.due(i + n <= 8 ? 2 : UNKNOWN, "forget", 9);
                }
            }
        });
        says("how many.", () -> {
            RICH.did(1, "prune", 0).due(0, "prune", 0).due(0, "prune", 1);
            RICH.with("clear", 0).did(2, "prune", 0).dueNames(25).due(0, "prune", 1).with("clear", 1).due(1, "prune", 1);
        });
        says("UNKNOWN.", () -> RICH.refuses(UNKNOWN, "prune", 2).refuses(UNKNOWN, "prune", -1));
        DOCUMENT.at("Promise 21, name");
        says("The name of the k-th PHRASE (the eldest first);", () -> RICH.due(3, "name", 0).due(25, "name", 1)
            .due(0, "name", 2).with("phrase", 3, 0, 0, 2).due(25, "name", 0).due(0, "name", 1).due(3, "name", 2));
        says("NONE: there are not so many.", () -> RICH.due(NONE, "name", 3).due(NONE, "name", 5).with("phrase", 9, 0, 0, 2)
            .due(9, "name", 3).due(NONE, "name", 4).with("forget", 3).due(NONE, "name", 3));
        says("OUTSIDE: k (0 .. 5).", () -> RICH.refuses(OUTSIDE, "name", -1).refuses(OUTSIDE, "name", 6)
            .refuses(OUTSIDE, "name", 25));
    }

    private static void echo() {
        DOCUMENT.at("Promise 22, echo");
        says("The NOTE at which the k-th ECHO of a PHRASE begins (what 0),", () -> {
            RICH.due(2, "echo", 3, 0, 0).due(4, "echo", 3, 1, 0).due(6, "echo", 3, 2, 0);
            RICH.with("put", 0, 4, 29).due(4, "echo", 3, 0, 0).due(6, "echo", 3, 1, 0).due(NONE, "echo", 3, 2, 0);
            RICH.with("phrase", 9, 0, 1, 2).due(4, "echo", 9, 0, 0).due(6, "echo", 9, 1, 0).due(NONE, "echo", 9, 2, 0);
        });
        says("its LIKENESS (1);", () -> RICH.due(1, "echo", 3, 0, 1).due(0, "echo", 3, 1, 1).due(2, "echo", 3, 2, 1));
        says("NONE: there are not so many.", () -> {
            for (int k = 3; k < 30; k++) {
                RICH.due(NONE, "echo", 3, k, 0).due(NONE, "echo", 3, k, 1);
            }
            RICH.due(NONE, "echo", 25, 0, 0).due(NONE, "echo", 25, 0, 1).due(NONE, "echo", 0, 0, 0);
        });
        says("UNKNOWN: there is no PHRASE with that name;", () -> {
            for (int name = -1; name <= 26; name++) {
                boolean there = name == 3 || name == 25 || name == 0;
                RICH.due(there ? OUTSIDE : UNKNOWN, "echo", name, 30, 0);
            }
            RICH.refuses(UNKNOWN, "echo", 9, 0, 0).refuses(UNKNOWN, "echo", NONE, 0, 0).with("forget", 3)
                .refuses(UNKNOWN, "echo", 3, 0, 0);
        });
        says("OUTSIDE: k (0 .. 29), what.", () -> RICH.refuses(OUTSIDE, "echo", 3, -1, 0).refuses(OUTSIDE, "echo", 3, 30, 0)
            .refuses(OUTSIDE, "echo", 3, 0, -1).refuses(OUTSIDE, "echo", 3, 0, 2).due(NONE, "echo", 3, 29, 1));
    }

    private static void tieEcho() {
        DOCUMENT.at("Promise 23, tieEcho");
        says("The HAND of a PHRASE gets a TIE of its NOTES and of its k-th ECHO,", () -> {
            for (int k = 0; k < 3; k++) {
                RICH.with("tie", 0, 0, 2 + 2 * k, 2).tellsTheSameAs(RICH.with("tieEcho", 3, k));
            }
            // 20 22 of the left hand come again as 30 32.
            Scene s = RICH.with("put", 1, 7, 30).with("put", 1, 8, 32).due(5, "echo", 25, 0, 0);
            s.with("tie", 1, 3, 5, 2).tellsTheSameAs(s.with("tieEcho", 25, 0));
        });
        says("in place of any: 1.", () -> {
            RICH.did(1, "tieEcho", 3, 0).due(1, "many", 4).due(1, "untie", 1).did(1, "untie", 0).due(0, "untie", 0);
            RICH.with("untie", 0).did(1, "tieEcho", 3, 2).due(1, "many", 4).did(1, "tieEcho", 3, 1).tellsTheSameAs(RICH);
        });
        says("UNKNOWN: there is no PHRASE with that name;", () -> RICH.refuses(UNKNOWN, "tieEcho", 9, 0)
            .refuses(UNKNOWN, "tieEcho", 26, 0).refuses(UNKNOWN, "tieEcho", -1, 30).refuses(UNKNOWN, "tieEcho", NONE, 0));
        says("OUTSIDE: k;", () -> RICH.refuses(OUTSIDE, "tieEcho", 3, -1).refuses(OUTSIDE, "tieEcho", 3, 30)
            .refuses(OUTSIDE, "tieEcho", 25, 30));
        says("STATE: there is no such ECHO.", () -> RICH.refuses(STATE, "tieEcho", 3, 3).refuses(STATE, "tieEcho", 3, 29)
            .refuses(STATE, "tieEcho", 25, 0).refuses(STATE, "tieEcho", 0, 0));
    }

    private static void moment() {
        // Right 24 26 -- 28 30 -- 25 27, left 24 30 40 20 -- 22 at the moments 0 to 7.
        DOCUMENT.at("Promise 24, moment");
        says("The k-th MOMENT that is CROSSED (what 0),", () -> RICH.due(1, "moment", 0, 0).with("put", 1, 7, 28)
            .due(1, "moment", 0, 0).due(7, "moment", 1, 0).with("put", 1, 1, 25).due(7, "moment", 0, 0));
        says("a CLASH (1),", () -> RICH.due(0, "moment", 0, 1).with("put", 1, 29, 26).due(0, "moment", 0, 1)
            .due(29, "moment", 1, 1).with("put", 0, 0, 23).due(29, "moment", 0, 1));
        says("at which just one HAND has a KEY (2),", () -> {
            int[] due = {2, 4, 5, 6, 7, 10, NONE};
            for (int k = 0; k < due.length; k++) {
                RICH.due(due[k], "moment", k, 2);
            }
        });
        says("none (3);", () -> {
            for (int k = 0; k < 20; k++) {
                RICH.due(k < 2 ? 8 + k : 9 + k, "moment", k, 3);
            }
        });
        says("NONE: there are not so many.", () -> RICH.due(NONE, "moment", 1, 0).due(NONE, "moment", 1, 1)
            .due(NONE, "moment", 6, 2).due(NONE, "moment", 20, 3).due(NONE, "moment", 29, 0).due(NONE, "moment", 29, 3));
        says("OUTSIDE: k (0 .. 29), what.", () -> RICH.refuses(OUTSIDE, "moment", -1, 0).refuses(OUTSIDE, "moment", 30, 3)
            .refuses(OUTSIDE, "moment", 0, 4).refuses(OUTSIDE, "moment", 0, -1));
    }

    private static void sumAndSwap() {
        DOCUMENT.at("Promise 25, sum");
        says("SUM.", () -> {
            Scene s = Scene.of(0, 24, 26, 28, 29, 31).keys(1, 24, 23, 21, 19, 17);
            s.due(2, "sum").with("mark", 0, 0, 2).due(5, "sum").with("tie", 1, 0, 1, 1).due(4 + 8, "sum");
            s.with("clear", 0).due(1, "sum").with("clear", 1).due(0, "sum").with("mark", 1, 0, 1).due(0, "sum");
            s.marks(0, 3, 2).due(NONE, "sum").changesNothing("sum");
        });
        DOCUMENT.at("Promise 26, swap");
        says("A SWAP of a MOMENT:", () -> {
            // What each hand gets is put there, one by one.
            RICH.with("put", 0, 1, 30).with("put", 1, 1, 26).tellsTheSameAs(RICH.with("swap", 1));
            RICH.with("put", 0, 2, 40).with("put", 1, 2, NONE).tellsTheSameAs(RICH.with("swap", 2));
            RICH.with("put", 0, 6, NONE).with("put", 1, 6, 25).tellsTheSameAs(RICH.with("swap", 6));
            RICH.with("put", 0, 29, 19).with("put", 1, 29, 26).tellsTheSameAs(RICH.with("swap", 29));
            RICH.changesNothing("swap", 0).changesNothing("swap", 8);
        });
        says("SUM then.", () -> {
            for (int m = 0; m < 30; m++) {
                RICH.due(RICH.with("swap", m).answer("sum"), "swap", m);
            }
            Scene.of(0, 24, 26, 28, 29, 31).keys(1, 24, 23, 21, 19, 17).due(2, "swap", 0).due(0, "swap", 1)
                .due(2, "swap", 5);
        });
        says("UNKNOWN.", () -> RICH.refuses(UNKNOWN, "swap", 30).refuses(UNKNOWN, "swap", -1));
    }

    private static void helpAndMany() {
        DOCUMENT.at("Promise 27, help");
        says("HELP: the MOMENT (what 0), SUM behind it (1);", () -> {
            Scene s = Scene.of(0, 24, 26, 28, 29, 31).keys(1, 24, 23, 21, 19, 17);
            s.due(1, "help", 0).due(0, "help", 1).changesNothing("help", 0).changesNothing("help", 1);
            // Of the left hand's jump the right one takes the key that it has itself.
            Scene.of(0, 24).keys(1, NONE, 24, 59).marks(0, 4).due(1 + 8, "sum").due(1, "help", 0).due(1, "help", 1);
        });
        says("NONE: there is none.", () -> Scene.of(0, 24, 26).due(NONE, "help", 0).due(NONE, "help", 1).marks(0, 4)
            .due(0, "help", 0).due(0, "help", 1));
        says("OUTSIDE.", () -> RICH.refuses(OUTSIDE, "help", 2).refuses(OUTSIDE, "help", -1));
        DOCUMENT.at("Promise 28, many");
        says("How many: 0 NOTES of the right HAND, 1 of the left one,", () -> RICH.due(8, "many", 0).due(6, "many", 1)
            .with("swap", 2).due(9, "many", 0).due(5, "many", 1));
        says("2 MARKS,", () -> RICH.due(4, "many", 2).with("mark", 0, 0, 3).due(5, "many", 2).with("mark", 0, 0, 2)
            .due(5, "many", 2).with("put", 1, 29, NONE).due(4, "many", 2).with("clear", 0).due(1, "many", 2));
        says("3 PHRASES,", () -> RICH.due(3, "many", 3).with("phrase", 9, 0, 0, 2).due(4, "many", 3)
            .with("phrase", 9, 1, 0, 2).due(4, "many", 3).with("prune", 0).due(3, "many", 3));
        says("4 TIES that hold,", () -> RICH.due(1, "many", 4).with("put", 1, 4, 25).due(2, "many", 4).with("untie", 0)
            .due(1, "many", 4).with("put", 1, 4, NONE).due(0, "many", 4));
        says("5 MOMENTS that are CROSSED, 6 CLASHES.", () -> RICH.due(1, "many", 5).due(1, "many", 6).with("put", 1, 4, 30)
            .due(1, "many", 5).due(2, "many", 6).with("put", 1, 4, 31).due(2, "many", 5).due(1, "many", 6)
            .with("swap", 1).due(1, "many", 5));
        says("OUTSIDE.", () -> RICH.refuses(OUTSIDE, "many", 7).refuses(OUTSIDE, "many", -1));
    }

    public static void main(String[] args) {
        newObject();
        put();
        mark();
        reach();
        reachOf();
        price();
        clear();
        note();
        costsAndStep();
        bestAndFinger();
        would();
        tieAndUntie();
        tiedAndStuck();
        phraseAndForget();
        pruneAndName();
        echo();
        tieEcho();
        moment();
        sumAndSwap();
        helpAndMany();
        DOCUMENT.wasAllSaid("## Promise 1:", "## Not promised");
        Check.end();
    }
}
