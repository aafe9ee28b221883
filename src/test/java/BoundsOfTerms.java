import java.util.Arrays;

/** "Terms" of the document: a test for each sentence that names a bound. */
public final class BoundsOfTerms {
    private static final int UNKNOWN = -1, OUTSIDE = -2, NONE = -9;
    private static final int[][] REACHES = {
        {1, 2, 1, 5, 8}, {1, 3, 2, 7, 10}, {1, 4, 3, 9, 12}, {1, 5, 5, 11, 14}, {2, 3, 1, 2, 4},
        {2, 4, 2, 4, 6}, {2, 5, 3, 6, 9}, {3, 4, 1, 2, 3}, {3, 5, 2, 4, 6}, {4, 5, 1, 2, 4}};
    private static final int[] PRICES = {3, 1, 2, 8, 3, 1, 1};
    private static final int THUMB = 0, FIFTH = 1, UNDER = 2, JUMP = 3, SLIDE = 4, AGAIN = 5, FOURTH = 6;

    private static void test(String sentence, Runnable body) {
        Check.test("Terms, " + sentence, body);
    }

    private static boolean black(int key) {
        return "010100101010".charAt(key % 12) == '1';
    }

    private static void numbers() {
        test("\"NONE is -9\", and the refusals", () -> {
            Check.due("UNKNOWN", KeyFingers.UNKNOWN, -1);
            Check.due("OUTSIDE", KeyFingers.OUTSIDE, -2);
            Check.due("STATE", KeyFingers.STATE, -3);
            Check.due("NONE", KeyFingers.NONE, -9);
        });
        test("\"at most 512 calls\": the last of them, of calls that change", () -> {
            KeyFingers x = new KeyFingers();
            int[] has = new int[30];
            Arrays.fill(has, NONE);
            for (int call = 1; call <= 511; call++) {
                int m = call % 30;
                int key = call % 7 == 0 ? NONE : call % 60;
                Check.due("call " + call, x.put(0, m, key), has[m]);
                has[m] = key;
            }
            Check.due("call 512", x.put(0, 0, NONE), has[0]);
        });
        test("\"at most 512 calls\": the last of them, of the longest call", () -> {
            KeyFingers x = new KeyFingers();
            for (int m = 0; m < 30; m++) {
                x.put(0, m, m % 2 == 0 ? 0 : 59);
                x.put(1, m, m % 2 == 0 ? 0 : 59);
            }
            x.put(0, 29, NONE);
            for (int call = 62; call <= 512; call++) {
                Check.due("call " + call, x.help(0), NONE);
            }
        });
    }

    private static void keysAndMoments() {
        test("==== 1 \"KEYS 0 .. 59\"", () -> {
            Scene.start().did(NONE, "put", 0, 0, 0).did(0, "put", 0, 0, 59).did(59, "put", 0, 0, 0)
                .due(0, "note", 0, 0, 1);
            Scene.start().due(0, "costs", 0, 1).due(0, "costs", 59, 1).due(OUTSIDE, "costs", -1, 1)
                .due(OUTSIDE, "costs", 60, 1);
            Scene.start().due(8, "step", 0, 0, 1, 59, 1).due(8, "step", 1, 59, 5, 0, 5);
            Scene.start().due(OUTSIDE, "put", 0, 0, -1).due(OUTSIDE, "put", 0, 0, 60);
        });
        test("==== 1 \"BLACK are those for which what is left by 12 is 1, 3, 6, 8 or 10\"", () -> {
            for (int key = 0; key < 60; key++) {
                Scene.of(0, key).due(black(key) ? 1 : 0, "note", 0, 0, 3).due(black(key) ? 3 : 0, "costs", key, 1);
            }
        });
        test("==== 1 \"HANDS: 0 right, 1 left\"", () -> {
            Scene.start().due(0, "step", 0, 24, 1, 26, 2).due(4, "step", 1, 24, 1, 26, 2);
            Scene.start().due(4, "step", 0, 26, 1, 24, 2).due(0, "step", 1, 26, 1, 24, 2);
            Scene.of(0, 24).due(1, "many", 0).due(0, "many", 1);
            Scene.of(1, 24).due(0, "many", 0).due(1, "many", 1);
        });
        test("==== 1 \"MOMENTS 0 .. 29\"", () -> {
            Scene.start().did(NONE, "put", 0, 0, 7).did(NONE, "put", 0, 29, 8).due(0, "note", 0, 0, 0)
                .due(29, "note", 0, 1, 0);
            Scene.start().due(UNKNOWN, "put", 0, -1, 7).due(UNKNOWN, "put", 0, 30, 7);
            Scene.start().due(0, "moment", 0, 3).due(29, "moment", 29, 3);
        });
        test("==== 1 \"(at first all rest)\"", () -> {
            for (int m = 0; m < 30; m++) {
                Scene.start().due(NONE, "put", 0, m, 24).due(NONE, "put", 1, m, 24).due(m, "moment", m, 3);
            }
        });
        test("==== 1 \"numbered from 0 on in the order of MOMENTS\": no NOTES", () ->
            Scene.start().due(UNKNOWN, "note", 0, 0, 0).due(UNKNOWN, "note", 1, 0, 0).due(0, "many", 0));
        test("==== 1 \"numbered from 0 on in the order of MOMENTS\": put in another order", () -> {
            Scene s = Scene.start().with("put", 1, 29, 1).with("put", 1, 0, 2).with("put", 1, 15, 3);
            s.due(0, "note", 1, 0, 0).due(15, "note", 1, 1, 0).due(29, "note", 1, 2, 0).due(UNKNOWN, "note", 1, 3, 0);
            s.due(2, "note", 1, 0, 1).due(3, "note", 1, 1, 1).due(1, "note", 1, 2, 1);
        });
        test("==== 1 \"numbered from 0 on in the order of MOMENTS\": a KEY at every MOMENT", () -> {
            for (int k = 0; k < 30; k++) {
                Scenes.FULL.due(k, "note", 0, k, 0).due(40 - k, "note", 1, k, 1);
            }
            Scenes.FULL.due(UNKNOWN, "note", 0, 30, 0);
            Scene s = Scenes.FULL.with("put", 0, 0, NONE);
            s.due(1, "note", 0, 0, 0).due(29, "note", 0, 28, 0).due(UNKNOWN, "note", 0, 29, 0).due(0, "note", 1, 0, 0);
            s = Scenes.FULL.with("put", 0, 29, NONE);
            s.due(0, "note", 0, 0, 0).due(28, "note", 0, 28, 0).due(UNKNOWN, "note", 0, 29, 0);
        });
    }

    private static void marks() {
        test("==== 1 \"a finger 1 .. 5\"", () -> {
            for (int f = 1; f <= 5; f++) {
                Scene.of(0, 24).did(NONE, "mark", 0, 0, f).due(f, "note", 0, 0, 2).due(f, "finger", 0, 0);
            }
            Scene.of(0, 24).due(OUTSIDE, "mark", 0, 0, 0).due(OUTSIDE, "mark", 0, 0, 6);
        });
        test("==== 1 \"A NOTE may have a MARK\": none, and every NOTE", () -> {
            Scenes.same(24).due(0, "many", 2).due(NONE, "note", 0, 29, 2);
            Scene s = Scene.start();
            for (int m = 0; m < 30; m++) {
                s = s.with("put", 0, m, 24).with("put", 1, m, 24).with("mark", 0, m, 1 + m % 5)
                    .with("mark", 1, m, 5 - m % 5);
            }
            s.due(60, "many", 2).due(1, "note", 0, 0, 2).due(5, "note", 0, 29, 2).due(5, "note", 1, 0, 2)
                .due(1, "note", 1, 29, 2);
        });
        test("==== 1 \"As a HAND gets another KEY (not the one that it has there)\"", () -> {
            for (int m : new int[] {0, 29}) {
                Scene s = Scene.start().with("put", 0, m, 24).with("put", 1, m, 24).with("mark", 0, m, 2)
                    .with("mark", 1, m, 3);
                s.with("put", 0, m, 24).due(2, "note", 0, 0, 2).due(3, "note", 1, 0, 2);
                s.with("put", 0, m, 25).due(NONE, "note", 0, 0, 2).due(3, "note", 1, 0, 2);
                s.with("put", 0, m, 23).due(NONE, "note", 0, 0, 2).due(1, "many", 2);
                s.with("put", 0, m, 36).with("put", 0, m, 24).due(NONE, "note", 0, 0, 2);
            }
        });
        test("==== 1 \"or a rest, at a MOMENT, the MARK there is no more\"", () -> {
            Scene s = Scene.of(0, 24, 26, 28).marks(0, 1, 2, 3);
            s = s.with("put", 0, 1, NONE).due(2, "many", 2).due(1, "note", 0, 0, 2).due(3, "note", 0, 1, 2);
            s.with("put", 0, 1, 26).due(NONE, "note", 0, 1, 2).due(3, "note", 0, 2, 2);
            s.with("clear", 0).keys(0, 24, 26, 28).due(0, "many", 2);
        });
    }

    private static void reachesAndPrices() {
        test("==== 1 \"LEAST, EASY, MOST (0 .. 24\"", () -> {
            Scene s = Scene.start().did(1, "reach", 1, 2, 0, 0, 0).did(1, "reach", 4, 5, 24, 24, 24)
                .did(1, "reach", 1, 5, 0, 24, 24);
            s.dueRow("reachOf", new int[] {1, 2}, 0, 0, 0).dueRow("reachOf", new int[] {4, 5}, 24, 24, 24);
            s.dueRow("reachOf", new int[] {1, 5}, 0, 24, 24);
            s.due(OUTSIDE, "reach", 1, 2, -1, 0, 0).due(OUTSIDE, "reach", 1, 2, -1, -1, -1)
                .due(OUTSIDE, "reach", 1, 2, 24, 24, 25);
            s.due(OUTSIDE, "reach", 1, 2, 24, 25, 25).due(OUTSIDE, "reach", 1, 2, 25, 25, 25);
        });
        test("==== 1 \"none less than the one ahead)\"", () -> {
            Scene s = Scene.start();
            s.due(1, "reach", 2, 4, 5, 5, 6).due(1, "reach", 2, 4, 5, 6, 6).due(1, "reach", 2, 4, 5, 5, 5);
            s.due(OUTSIDE, "reach", 2, 4, 5, 4, 6).due(OUTSIDE, "reach", 2, 4, 5, 6, 5)
                .due(OUTSIDE, "reach", 2, 4, 6, 5, 5);
            s.due(OUTSIDE, "reach", 2, 4, 24, 23, 24).due(OUTSIDE, "reach", 2, 4, 0, 24, 23)
                .due(OUTSIDE, "reach", 2, 4, 1, 0, 0);
        });
        test("==== 1 REACHES \"at first\"", () -> {
            for (int[] r : REACHES) {
                Scene.start().dueRow("reachOf", new int[] {r[0], r[1]}, r[2], r[3], r[4]);
            }
        });
        test("==== 1 \"PRICES (0 .. 20)\"", () -> {
            for (int k = 0; k < 7; k++) {
                Scene s = Scene.start().did(PRICES[k], "price", k, 0).did(0, "price", k, 20).due(20, "price", k, 1);
                s.due(OUTSIDE, "price", k, -1).due(OUTSIDE, "price", k, 21);
            }
        });
        test("==== 1 PRICES \"at first\"", () -> {
            for (int k = 0; k < 7; k++) {
                Scene.start().due(PRICES[k], "price", k, 7);
            }
        });
    }

    private static void notesAndSteps() {
        test("==== 2 \"A NOTE with a finger costs\": PRICES of 0 and 20", () -> {
            for (int v : new int[] {0, 20}) {
                Scene s = Scene.start().with("price", THUMB, v).with("price", FIFTH, v).with("price", FOURTH, v);
                for (int f = 1; f <= 5; f++) {
                    s.due(f == 4 ? v : 0, "costs", 24, f).due(f == 2 || f == 3 ? 0 : v, "costs", 25, f);
                }
            }
        });
        test("==== 2 \"If d is 0: it costs AGAIN, if f is g, else nothing\"", () -> {
            for (int key : new int[] {0, 1, 58, 59}) {
                for (int f = 1; f <= 5; f++) {
                    for (int g = 1; g <= 5; g++) {
                        Scene.start().due(f == g ? 1 : 0, "step", 0, key, f, key, g)
                            .due(f == g ? 1 : 0, "step", 1, key, f, key, g);
                    }
                }
            }
            Scene.start().with("price", AGAIN, 20).due(20, "step", 0, 0, 1, 0, 1).due(0, "step", 0, 0, 1, 0, 2);
            Scene.start().with("price", AGAIN, 0).due(0, "step", 1, 59, 5, 59, 5);
        });
        test("==== 2 \"SLIDE, if a is BLACK, b is not, and D is 1; else JUMP\"", () -> {
            for (int a = 0; a < 60; a++) {
                for (int b = Math.max(0, a - 3); b <= Math.min(59, a + 3); b++) {
                    if (a != b) {
                        int due = black(a) && !black(b) && Math.abs(a - b) == 1 ? 3 : 8;
                        Scene.start().due(due, "step", 0, a, 2, b, 2).due(due, "step", 1, a, 5, b, 5);
                    }
                }
            }
            Scene s = Scene.start().with("price", SLIDE, 20).with("price", JUMP, 0);
            s.due(20, "step", 0, 1, 1, 0, 1).due(20, "step", 0, 58, 1, 59, 1).due(0, "step", 0, 0, 1, 1, 1)
                .due(0, "step", 0, 1, 1, 59, 1);
        });
        test("==== 2 \"it can't be, if D is less than LEAST or above MOST; it costs by how much D is above EASY\"", () -> {
            for (int[] r : REACHES) {
                for (int apart : new int[] {r[2] - 1, r[2], r[3], r[3] + 1, r[4], r[4] + 1, 24, 25, 59}) {
                    if (apart > 0) {
                        dueReach(Scene.start(), r, apart);
                    }
                }
            }
        });
        test("==== 2 \"by the REACH of the two fingers\": the least and the greatest ones", () -> {
            for (int[] three : new int[][] {{0, 0, 0}, {24, 24, 24}, {0, 0, 24}, {0, 24, 24}, {1, 1, 1}, {0, 0, 1}}) {
                for (int[] r : REACHES) {
                    int[] now = {r[0], r[1], three[0], three[1], three[2]};
                    Scene s = Scene.start().with("reach", now);
                    for (int apart : new int[] {1, 2, 23, 24, 25, 59}) {
                        dueReach(s, now, apart);
                    }
                }
            }
        });
    }

    private static void dueReach(Scene s, int[] r, int apart) {
        int due = apart < r[2] || apart > r[4] ? NONE : apart > r[3] ? apart - r[3] : 0;
        s.due(due, "step", 0, 0, r[0], apart, r[1]).due(due, "step", 0, apart, r[1], 0, r[0]);
        s.due(due, "step", 1, apart, r[0], 0, r[1]).due(due, "step", 1, 0, r[1], apart, r[0]);
    }

    private static void thumbs() {
        test("==== 2 \"one of f, g is 1, the other one not 5, and D is 5 or less: UNDER and D\"", () -> {
            for (int g = 2; g <= 4; g++) {
                for (int apart = 1; apart <= 5; apart++) {
                    dueUnder(Scene.start(), g, apart, 2 + apart);
                    dueUnder(Scene.start().with("price", UNDER, 0), g, apart, apart);
                    dueUnder(Scene.start().with("price", UNDER, 20), g, apart, 20 + apart);
                    dueUnder(Scene.start().with("reach", 1, g, 0, 0, 0), g, apart, 2 + apart);
                }
                dueUnder(Scene.start(), g, 6, NONE);
                dueUnder(Scene.start(), g, 59, NONE);
            }
        });
        test("==== 2 \"Else it can't be\": thumb and fifth", () -> {
            for (int apart : new int[] {1, 4, 5, 6, 59}) {
                dueUnder(Scene.start(), 5, apart, NONE);
                dueUnder(Scene.start().with("reach", 1, 5, 0, 24, 24), 5, apart, NONE);
            }
        });
        test("==== 2 \"Else it can't be\": no thumb", () -> {
            for (int f = 2; f <= 5; f++) {
                for (int g = f + 1; g <= 5; g++) {
                    Scene.start().due(NONE, "step", 0, 24, g, 25, f).due(NONE, "step", 0, 25, f, 24, g);
                    Scene.start().due(NONE, "step", 1, 25, g, 24, f).due(NONE, "step", 1, 24, f, 25, g);
                }
            }
        });
    }

    private static void dueUnder(Scene s, int g, int apart, int due) {
        s.due(due, "step", 0, 0, g, apart, 1).due(due, "step", 0, apart, 1, 0, g);
        s.due(due, "step", 1, apart, g, 0, 1).due(due, "step", 1, 0, 1, apart, g);
    }

    /** Each note costs 20 and each step 25: a thumb that goes under five keys, at the greatest prices. */
    private static Scene dearest(int hand) {
        Scene s = Scene.start().with("price", THUMB, 20).with("price", UNDER, 20).with("price", FOURTH, 20);
        for (int m = 0; m < 30; m++) {
            boolean thumb = m % 2 == 0;
            s = s.with("put", hand, m, thumb == (hand == 0) ? 6 : 1).with("mark", hand, m, thumb ? 1 : 4);
        }
        return s;
    }

    private static void rows() {
        test("==== 2 \"one that is MARKED its MARK\": every NOTE", () -> {
            Scene s = Scenes.same(24);
            for (int m = 0; m < 30; m++) {
                s = s.with("mark", 0, m, 3);
            }
            s.due(29, "best", 0).due(3, "finger", 0, 0).due(3, "finger", 0, 29);
        });
        test("==== 2 \"all STEPS ... such as can be\": the first and the last one", () -> {
            Scenes.same(24).with("put", 0, 0, 59).with("mark", 0, 0, 2).with("mark", 0, 1, 3).due(NONE, "best", 0)
                .due(NONE, "finger", 0, 29);
            Scenes.same(24).with("put", 0, 29, 59).with("mark", 0, 28, 2).with("mark", 0, 29, 3).due(NONE, "best", 0)
                .due(NONE, "finger", 0, 0);
            Scenes.same(24).with("put", 0, 29, 59).with("mark", 0, 28, 2).with("mark", 0, 29, 2).due(8, "best", 0);
        });
        test("==== 2 \"It costs what NOTES and STEPS cost\": the dearest ROW", () -> {
            dearest(0).due(30 * 20 + 29 * 25, "best", 0).due(0, "best", 1).due(1325, "sum").due(NONE, "stuck", 0);
            dearest(1).due(30 * 20 + 29 * 25, "best", 1).due(0, "best", 0).due(1325, "sum").due(4, "finger", 1, 29);
            dearest(0).with("tie", 0, 0, 14, 14).due(1325, "best", 0).due(0, "tied", 0);
            dearest(0).with("tie", 0, 0, 15, 14).due(NONE, "best", 0).due(99, "stuck", 0);
        });
        test("==== 2 \"of several that with the lesser finger at the first NOTE at which they differ\"", () -> {
            Scene white = Scenes.same(24), black = Scenes.same(25), free = white.with("price", AGAIN, 0);
            for (int k = 0; k < 30; k++) {
                white.due(1 + k % 2, "finger", 0, k);
                black.due(2 + k % 2, "finger", 0, k);
                free.due(1, "finger", 0, k);
            }
            white.due(0, "best", 0);
            Scene.of(0, 24, 24, 24).with("mark", 0, 2, 1).dueFingers(0, 1, 2, 1);
            Scene.of(0, 24, 24, 24).with("mark", 0, 1, 1).dueFingers(0, 2, 1, 2);
            Scene.of(0, 24, 59).dueFingers(0, 1, 1);
        });
        test("==== 2 \"(Without NOTES: one that costs 0.)\"", () -> {
            for (int hand = 0; hand < 2; hand++) {
                Scene.start().due(0, "best", hand).due(0, "tied", hand).due(NONE, "stuck", hand).due(0, "sum");
                Scene.start().with("tie", hand, 0, 1, 1).due(0, "best", hand).due(0, "tied", hand)
                    .due(NONE, "stuck", hand);
                Scene.of(hand, 24, 59).marks(hand, 1, 2).with("clear", hand).due(0, "best", hand);
            }
        });
        test("==== 2 a ROW of one NOTE", () -> {
            for (int f = 1; f <= 5; f++) {
                Scene.start().with("put", 0, 29, 25).with("mark", 0, 29, f)
                    .due(new int[] {3, 0, 0, 1, 1}[f - 1], "best", 0).dueFingers(0, f);
            }
            Scene.of(0, 24).dueFingers(0, 1);
            Scene.of(1, 25).dueFingers(1, 2);
        });
    }

    private static void ties() {
        test("==== 3 \"one at most\"", () -> {
            Scene s = Scene.of(0, 24, 24, 24).with("tie", 0, 0, 1, 1).with("tie", 0, 1, 2, 1);
            s.dueFingers(0, 1, 2, 2).due(1, "many", 4).did(1, "untie", 0).due(0, "untie", 0).dueFingers(0, 1, 2, 1);
        });
        test("==== 3 \"with n 1 or more\"", () ->
            Scene.of(0, 24, 24).due(1, "tie", 0, 0, 1, 1).due(OUTSIDE, "tie", 0, 0, 1, 0)
                .due(OUTSIDE, "tie", 0, 0, 1, -1));
        test("==== 3 \"i + n not above j\"", () -> {
            Scenes.same(24).due(1, "tie", 0, 3, 6, 3).due(OUTSIDE, "tie", 0, 3, 5, 3).due(OUTSIDE, "tie", 0, 4, 6, 3)
                .due(OUTSIDE, "tie", 0, 3, 6, 4);
            Scenes.same(24).due(1, "tie", 0, 0, 15, 15).due(OUTSIDE, "tie", 0, 1, 15, 15)
                .due(OUTSIDE, "tie", 0, 5, 5, 1).due(OUTSIDE, "tie", 0, 5, 4, 1);
        });
        test("==== 3 \"NOTE i + k has the same finger as NOTE j + k, for each k\"", () -> {
            Scene s = Scene.of(0, 24, 24, 24, 24, 24, 24, 24, 24).with("tie", 0, 1, 5, 3);
            s.with("mark", 0, 1, 5).due(5, "finger", 0, 5).with("mark", 0, 7, 4).due(4, "finger", 0, 3);
            s.with("mark", 0, 6, 3).due(3, "finger", 0, 2).with("mark", 0, 2, 2).due(NONE, "best", 0);
            s.with("mark", 0, 0, 5).due(2, "finger", 0, 4).with("mark", 0, 4, 3).due(5, "finger", 0, 0);
        });
        test("==== 3 \"It is told by numbers and stays so\"", () -> {
            Scene s = Scene.of(0, 24, 24, 24).with("tie", 0, 0, 1, 1).dueFingers(0, 1, 1, 2);
            s.with("put", 0, 0, NONE).dueFingers(0, 1, 1).with("put", 0, 29, 24).dueFingers(0, 1, 1, 2);
            s.with("put", 0, 0, NONE).with("put", 0, 1, NONE).dueFingers(0, 1).due(0, "many", 4).due(1, "untie", 0);
        });
        test("==== 3 \"while there are fewer than j + n NOTES it does not hold\"", () -> {
            Scene s = Scene.of(0, 24, 24, 24).did(0, "tie", 0, 0, 2, 2).due(0, "many", 4).dueFingers(0, 1, 2, 1);
            s = s.with("put", 0, 3, 24).due(1, "many", 4).with("mark", 0, 3, 5).dueFingers(0, 1, 5, 1, 5);
            s = s.with("put", 0, 0, NONE).due(0, "many", 4).dueFingers(0, 1, 2, 5);
            s.with("put", 0, 0, 24).due(1, "many", 4).dueFingers(0, 1, 5, 1, 5);
        });
        test("==== 3 \"while there are fewer than j + n NOTES\": more than there can be", () -> {
            Scenes.same(24).did(0, "tie", 0, 0, 29, 2).due(0, "many", 4).due(0, "best", 0).due(1, "untie", 0);
            Scenes.same(24).did(0, "tie", 0, 0, 16, 15).due(0, "many", 4).due(0, "tied", 0);
            Scenes.same(24).did(1, "tie", 0, 0, 29, 1).due(1, "many", 4).due(3, "finger", 0, 28)
                .due(1, "finger", 0, 29);
        });
        test("==== 3 \"STUCK: if there is no ROW\"", () -> {
            Scene.start().due(NONE, "stuck", 0);
            Scene.of(0, 24).marks(0, 5).due(NONE, "stuck", 0);
            Scenes.same(24).due(NONE, "stuck", 0).due(NONE, "stuck", 1);
        });
        test("==== 3 STUCK, \"the least k\": the first and the last that can be", () -> {
            Scene.of(1, 24, 59).marks(1, 2, 3).due(1, "stuck", 1);
            Scenes.same(24).with("put", 0, 0, 59).with("mark", 0, 0, 2).with("mark", 0, 1, 3).due(1, "stuck", 0);
            Scene last = Scenes.same(24).with("put", 0, 29, 59).with("mark", 0, 28, 2).with("mark", 0, 29, 3);
            last.due(29, "stuck", 0).with("mark", 0, 0, 2).with("put", 0, 1, 59).with("mark", 0, 1, 3)
                .due(1, "stuck", 0);
        });
        test("==== 3 STUCK, \"none without the TIE; 99, if there is no such k (it is the TIE)\"", () -> {
            Scene s = Scenes.same(24).with("tie", 0, 0, 29, 1).with("mark", 0, 0, 1).with("mark", 0, 29, 2);
            s.due(99, "stuck", 0).with("untie", 0).due(NONE, "stuck", 0);
            s.with("put", 0, 28, 59).with("mark", 0, 28, 3).due(29, "stuck", 0);
            s.with("put", 0, 28, NONE).due(NONE, "stuck", 0);
        });
    }

    private static void phrases() {
        test("==== 4 \"names 0 .. 25\"", () ->
            Scene.start().did(1, "phrase", 0, 0, 0, 2).did(2, "phrase", 25, 0, 0, 2).dueNames(0, 25)
                .due(OUTSIDE, "phrase", -1, 0, 0, 2).due(OUTSIDE, "phrase", 26, 0, 0, 2));
        test("==== 4 \"6 at most\", \"one more takes the place of the eldest\"", () -> {
            Scene s = Scene.start().dueNames();
            for (int p = 1; p <= 6; p++) {
                s = s.did(p, "phrase", 10 + p, p % 2, 0, 2);
            }
            s = s.dueNames(11, 12, 13, 14, 15, 16).did(6, "phrase", 0, 0, 0, 2).dueNames(12, 13, 14, 15, 16, 0);
            s = s.due(UNKNOWN, "forget", 11).did(6, "phrase", 11, 0, 0, 2).dueNames(13, 14, 15, 16, 0, 11);
            s.did(5, "forget", 15).did(6, "phrase", 1, 0, 0, 2).dueNames(13, 14, 16, 0, 11, 1);
        });
        test("==== 4 \"one with a name that there is goes, and comes behind all\"", () -> {
            Scene s = Scene.start().with("phrase", 1, 0, 0, 2).did(1, "phrase", 1, 0, 0, 3).dueNames(1);
            for (int p = 2; p <= 6; p++) {
                s = s.with("phrase", p, 0, 0, 2);
            }
            s.did(6, "phrase", 1, 1, 0, 2).dueNames(2, 3, 4, 5, 6, 1);
            s.did(6, "phrase", 3, 1, 0, 2).dueNames(1, 2, 4, 5, 6, 3);
            s.did(6, "phrase", 6, 1, 0, 2).dueNames(1, 2, 3, 4, 5, 6);
        });
        test("==== 4 \"n 2 .. 12\"", () ->
            Scene.start().due(1, "phrase", 0, 0, 0, 2).due(1, "phrase", 0, 0, 0, 12)
                .due(OUTSIDE, "phrase", 0, 0, 0, 1).due(OUTSIDE, "phrase", 0, 0, 0, 13));
        test("==== 4 \"An ECHO of a PHRASE (all whose NOTES are there)\"", () -> {
            Scene s = Scene.of(0, 24, 24, 24).with("phrase", 1, 0, 2, 2).with("phrase", 2, 0, 1, 2)
                .with("phrase", 3, 0, 28, 12);
            s.due(NONE, "echo", 1, 0, 0).due(NONE, "echo", 2, 0, 0).due(NONE, "echo", 3, 0, 0)
                .due(NONE, "echo", 3, 29, 1);
            s = s.with("put", 0, 3, 24).with("put", 0, 4, 24).due(NONE, "echo", 1, 0, 0).due(3, "echo", 2, 0, 0);
            Scenes.same(24).with("phrase", 3, 0, 28, 2).due(NONE, "echo", 3, 0, 0).with("phrase", 3, 0, 26, 2)
                .due(28, "echo", 3, 0, 0);
        });
        test("==== 4 \"a NOTE j, not less than i + n\"", () -> {
            Scenes.same(24).with("phrase", 0, 0, 0, 2).due(2, "echo", 0, 0, 0).due(3, "echo", 0, 1, 0);
            Scenes.same(24).with("phrase", 0, 0, 6, 12).due(18, "echo", 0, 0, 0).due(NONE, "echo", 0, 1, 0);
            Scenes.same(24).with("phrase", 0, 0, 7, 12).due(NONE, "echo", 0, 0, 0);
        });
        test("==== 4 \"the same number for all k 0 .. n - 1\"", () -> {
            Scene s = Scene.of(0, 10, 12, 14, 40, 42, 44).with("phrase", 0, 0, 0, 3).due(3, "echo", 0, 0, 0);
            for (int m = 0; m < 6; m++) {
                int key = m < 3 ? 10 + 2 * m : 34 + 2 * m;
                s.with("put", 0, m, key + 1).due(NONE, "echo", 0, 0, 0).with("put", 0, m, key - 1)
                    .due(NONE, "echo", 0, 0, 0);
            }
            Scene.of(0, 0, 1, 58, 59).with("phrase", 0, 0, 0, 2).due(2, "echo", 0, 0, 0);
            Scene.of(0, 58, 59, 0, 1).with("phrase", 0, 0, 0, 2).due(2, "echo", 0, 0, 0);
            Scene.of(0, 0, 59, 0, 59).with("phrase", 0, 0, 0, 2).due(2, "echo", 0, 0, 0);
            Scene.of(0, 0, 59, 59, 0).with("phrase", 0, 0, 0, 2).due(NONE, "echo", 0, 0, 0);
        });
        test("==== 4 \"(all these NOTES of the same HAND being there)\"", () -> {
            Scene s = Scene.of(0, 24, 26, 28, 30).keys(1, 24, 26, 28).with("phrase", 0, 0, 0, 2)
                .with("phrase", 1, 1, 0, 2);
            s.due(2, "echo", 0, 0, 0).due(NONE, "echo", 1, 0, 0).with("put", 0, 3, NONE).due(NONE, "echo", 0, 0, 0);
            s.with("put", 1, 29, 30).due(2, "echo", 1, 0, 0);
        });
        test("==== 4 \"LIKENESS of an ECHO\": none, some, all", () -> {
            Scene s = Scene.of(0, 24, 26, 25, 27, 29, 24, 26).with("phrase", 0, 0, 0, 2);
            s.due(0, "echo", 0, 0, 1).due(1, "echo", 0, 1, 1).due(2, "echo", 0, 2, 1).due(NONE, "echo", 0, 3, 1);
            Scenes.same(24).with("phrase", 0, 0, 0, 12).due(12, "echo", 0, 0, 1);
            Scenes.same(25).with("phrase", 0, 0, 0, 12).due(12, "echo", 0, 6, 1);
            Scene half = Scenes.same(24);
            for (int m = 15; m < 30; m++) {
                half = half.with("put", 0, m, 25);
            }
            half.with("phrase", 0, 0, 0, 12).due(15, "echo", 0, 0, 0).due(0, "echo", 0, 0, 1);
        });
    }

    private static void bothHands() {
        test("==== 5 \"CROSSED, if the right one's is less than the left one's, a CLASH, if they are the same\"", () -> {
            for (int[] keys : new int[][] {{0, 1}, {0, 59}, {58, 59}, {29, 30}}) {
                Scene.of(0, keys[0]).keys(1, keys[1]).due(1, "many", 5).due(0, "many", 6).due(0, "moment", 0, 0);
                Scene.of(0, keys[1]).keys(1, keys[0]).due(0, "many", 5).due(0, "many", 6).due(NONE, "moment", 0, 0);
                Scene.of(0, keys[0]).keys(1, keys[0]).due(0, "many", 5).due(1, "many", 6).due(0, "moment", 0, 1);
            }
        });
        test("==== 5 \"A MOMENT at which both HANDS have a KEY\": one rests, both rest", () -> {
            Scene.of(0, 0).due(0, "many", 5).due(0, "many", 6).due(0, "moment", 0, 2);
            Scene.of(1, 59).due(0, "many", 5).due(0, "many", 6).due(0, "moment", 0, 2);
            Scene.start().due(0, "many", 5).due(0, "many", 6).due(NONE, "moment", 0, 2);
        });
        test("==== 5 CROSSED and CLASH: at every MOMENT", () -> {
            Scene crossed = Scene.start(), clash = Scene.start();
            for (int m = 0; m < 30; m++) {
                crossed = crossed.with("put", 0, m, m).with("put", 1, m, m + 1);
                clash = clash.with("put", 0, m, m).with("put", 1, m, m);
            }
            crossed.due(30, "many", 5).due(0, "many", 6).due(29, "moment", 29, 0).due(NONE, "moment", 0, 1);
            clash.due(0, "many", 5).due(30, "many", 6).due(29, "moment", 29, 1).due(NONE, "moment", 0, 0);
        });
        test("==== 5 \"NONE, if one has none\"", () -> {
            Scene.start().due(0, "sum");
            Scene.of(0, 24, 59).marks(0, 1, 2).due(NONE, "sum").keys(1, 24, 59).due(NONE, "sum");
            Scene.of(1, 24, 59).marks(1, 1, 2).due(NONE, "sum").keys(0, 24, 59).due(NONE, "sum");
            Scene.of(0, 24, 59).keys(1, 24, 59).due(16, "sum").marks(0, 1, 2).marks(1, 1, 2).due(NONE, "sum");
        });
        test("==== 5 \"what the BEST ROWS of both HANDS cost together\": the dearest", () -> {
            Scene s = dearest(0);
            for (int m = 0; m < 30; m++) {
                s = s.with("put", 1, m, m % 2 == 0 ? 1 : 6).with("mark", 1, m, m % 2 == 0 ? 1 : 4);
            }
            s.due(2650, "sum").due(60, "many", 2);
        });
        test("==== 5 \"HANDS change what they have there (KEY or rest\"", () -> {
            for (int m : new int[] {0, 29}) {
                Scene.start().with("put", 0, m, 24).did(0, "swap", m).due(0, "many", 0).due(24, "note", 1, 0, 1)
                    .due(m, "note", 1, 0, 0);
                Scene.start().with("put", 1, m, 24).did(0, "swap", m).due(0, "many", 1).due(24, "note", 0, 0, 1);
                Scene.start().with("put", 0, m, 0).with("put", 1, m, 59).did(0, "swap", m).due(59, "note", 0, 0, 1)
                    .due(0, "note", 1, 0, 1);
                Scene.start().did(0, "swap", m).due(0, "many", 0).due(0, "many", 1);
            }
        });
        test("==== 5 \"MARKS there are no more, unless both KEYS are the same)\"", () -> {
            Scene s = Scene.of(0, 24, 30).keys(1, 24, 31).marks(0, 2, 3).marks(1, 4, 5);
            s.with("swap", 0).due(4, "many", 2).due(2, "note", 0, 0, 2).due(4, "note", 1, 0, 2);
            s.with("swap", 1).due(2, "many", 2).due(NONE, "note", 0, 1, 2).due(NONE, "note", 1, 1, 2)
                .due(2, "note", 0, 0, 2);
            s.with("swap", 1).with("swap", 1).due(2, "many", 2).due(30, "note", 0, 1, 1);
            Scene.of(0, 24).marks(0, 5).with("swap", 0).due(0, "many", 2).with("swap", 0).due(0, "many", 2);
        });
        helps();
    }

    private static void helps() {
        test("==== 5 HELP, \"less than SUM as it is\": none is", () -> {
            Scene.start().due(NONE, "help", 0).due(NONE, "help", 1);
            Scenes.same(24).due(NONE, "help", 0).due(NONE, "help", 1);
            // A swap of one of them brings the same sum, which is not less.
            Scene same = Scene.of(0, 0, 59).keys(1, 0, 59).due(16, "sum").due(16, "swap", 0).due(16, "swap", 1);
            same.due(NONE, "help", 0).due(NONE, "help", 1);
        });
        test("==== 5 HELP, \"less than SUM as it is\": by 1", () -> {
            Scene s = Scene.of(0, 24, 26).marks(0, 4).due(1, "sum").due(0, "swap", 0);
            s.due(0, "help", 0).due(0, "help", 1).with("price", FOURTH, 0).due(NONE, "help", 0).due(NONE, "help", 1);
        });
        test("==== 5 HELP, \"(or SUM is NONE)\"", () -> {
            Scene.of(0, 24, 59).marks(0, 1, 2).due(0, "help", 0).due(0, "help", 1);
            Scene s = Scene.of(0, 0, 59, 0).marks(0, 1, 2, 1).due(NONE, "sum").due(1, "help", 0).due(1, "help", 1);
            s.with("price", AGAIN, 20).due(1, "help", 0).due(20, "help", 1);
        });
        test("==== 5 HELP, \"if there is one with a SUM at all\": there is none", () -> {
            Scene.of(0, 0, 59, 0, 59).marks(0, 1, 2, 1, 2).due(NONE, "sum").due(NONE, "help", 0).due(NONE, "help", 1);
            Scene.of(0, 0, 59).marks(0, 1, 2).with("put", 1, 20, 0).with("put", 1, 21, 59).marks(1)
                .with("mark", 1, 20, 1)
                .with("mark", 1, 21, 2).due(NONE, "sum").due(NONE, "help", 0).due(NONE, "help", 1);
        });
        test("==== 5 HELP, \"of several the first\", \"the least SUM\"", () -> {
            Scene.start().with("put", 0, 28, 0).with("put", 0, 29, 59).due(28, "help", 0).due(0, "help", 1);
            Scene last = Scene.start().with("put", 0, 27, 24).with("put", 0, 28, 24).with("put", 0, 29, 59);
            last.due(8, "sum").due(29, "help", 0).due(0, "help", 1);
            Scene.of(0, 59, 24, 24).due(8, "sum").due(0, "help", 0).due(0, "help", 1);
            Scene less = Scene.of(0, 24, 24, 59).marks(0, 4).due(9, "sum").due(8, "swap", 0).due(10, "swap", 1)
                .due(1, "swap", 2);
            less.due(2, "help", 0).due(1, "help", 1);
        });
    }

    public static void main(String[] args) {
        numbers();
        keysAndMoments();
        marks();
        reachesAndPrices();
        notesAndSteps();
        thumbs();
        rows();
        ties();
        phrases();
        bothHands();
        Check.end();
    }
}
