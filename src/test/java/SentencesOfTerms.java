import java.util.Arrays;
import java.util.function.Consumer;

/**
 * The document from its first line to the end of "Terms", sentence by sentence: a test for each,
 * its answers worked out by hand or by trying all rows. The last test looks whether a word of the
 * document is left that no test quotes.
 */
public final class SentencesOfTerms {
    private static final int UNKNOWN = -1, OUTSIDE = -2, STATE = -3, NONE = -9;
    private static final int THUMB = 0, FIFTH = 1, UNDER = 2, JUMP = 3, SLIDE = 4, AGAIN = 5, FOURTH = 6;
    private static final Document DOCUMENT = new Document();

    private static void says(String quote, Runnable body) {
        DOCUMENT.says(quote, body);
    }

    /** The same for many hands of a few notes. */
    private static void forSome(Consumer<AllRows> body) {
        AllRows.forSeeds(1, 400, body);
    }

    private static void whatItIs() {
        DOCUMENT.at("What it is");
        says("Fingers on keys: two hands that have a key or rest at each moment; prices of fingers on black keys, "
            + "of steps by reaches between fingers, of thumbs that go under, fingers that slide, jump, strike again; "
            + "the best row of fingers of a hand by a table over its notes; marks that are kept; two phrases tied, so "
            + "that they have the same fingers, what that costs; where it cannot be played; phrases by names, their "
            + "echoes; hands that cross, clash, change what they have; the one change that helps most.", () -> {
            Scene s = Scene.of(0, 24, 26, 28, 29, 31).keys(1, 24, 23, 21, 19, 17);
            // Five notes one way want all five fingers, the fourth among them.
            s.due(1, "best", 0).dueFingers(0, 1, 2, 3, 4, 5).due(1, "best", 1).dueFingers(1, 1, 2, 3, 4, 5);
            s.due(2, "sum").due(1, "many", 6).due(0, "many", 5).due(5, "would", 0, 4, 4);
            // A thumb goes under by two keys.
            s.with("mark", 0, 0, 2).due(4, "best", 0).dueFingers(0, 2, 1, 2, 3, 5);
            Scene tied = s.with("phrase", 3, 0, 0, 2).due(3, "echo", 3, 0, 0).due(2, "echo", 3, 0, 1)
                .did(1, "tieEcho", 3, 0);
            tied.due(3, "best", 0).dueFingers(0, 1, 2, 3, 1, 2).due(2, "tied", 0);
            tied.with("mark", 0, 0, 1).with("mark", 0, 3, 2).due(NONE, "best", 0).due(99, "stuck", 0);
            // With D of the right hand for B of the left one both do without their fourth fingers.
            s.due(1, "help", 0).due(0, "help", 1).did(0, "swap", 1).dueFingers(0, 2, 1, 2, 3, 5);
        });
        says("An object is used for at most 512 calls after it has been made; what later calls answer is free.", () -> {
            KeyFingers x = new KeyFingers();
            for (int call = 1; call <= 504; call++) {
                Check.due("call " + call, x.put(call % 2, call / 2 % 28, 24 + call % 5), call < 57 ? NONE : had(call));
            }
            Check.due("call 505", x.phrase(9, 0, 0, 2), 1);
            Check.due("call 506", x.put(0, 29, 7), NONE);
            Check.due("call 507", x.mark(0, 29, 5), NONE);
            Check.due("call 508", x.price(JUMP, 0), 8);
            Check.due("call 509", x.tie(1, 0, 27, 1), 1);
            Check.due("call 510", x.many(2), 1);
            Check.due("call 511", x.finger(0, 28), 5);
            Check.due("call 512", x.clear(1), 28);
        });
    }

    /** What the call 56 calls ahead put at the same place. */
    private static int had(int call) {
        return 24 + (call - 56) % 5;
    }

    private static void refusals() {
        DOCUMENT.at("Terms");
        says("REFUSALS, in the order in which a call's line tells them (of several the first one):", () -> {
            Scene s = Scenes.RICH;
            s.refuses(UNKNOWN, "put", 2, 0, 60).refuses(UNKNOWN, "put", 0, 30, 60);
            s.refuses(UNKNOWN, "mark", 0, 30, 6).refuses(OUTSIDE, "mark", 0, 2, 6).refuses(STATE, "mark", 0, 2, 5);
            s.refuses(UNKNOWN, "reach", 6, 1, 3, 2, 1).refuses(OUTSIDE, "reach", 5, 1, 3, 2, 1)
                .refuses(STATE, "reach", 5, 1, 1, 2, 3);
            s.refuses(UNKNOWN, "reachOf", 3, 0, 3).refuses(OUTSIDE, "reachOf", 3, 3, 3)
                .refuses(STATE, "reachOf", 3, 3, 2);
            s.refuses(UNKNOWN, "note", 0, 8, 4).refuses(UNKNOWN, "costs", 60, 6).refuses(UNKNOWN, "step", 0, 60, 6, -1, 1);
            s.refuses(UNKNOWN, "tie", 2, 29, 0, 16).refuses(UNKNOWN, "phrase", 26, 2, 29, 13);
            s.refuses(UNKNOWN, "echo", 4, 30, 2).refuses(UNKNOWN, "tieEcho", 4, 30).refuses(OUTSIDE, "tieEcho", 0, 30)
                .refuses(STATE, "tieEcho", 0, 0);
        });
        says("UNKNOWN (there is no such HAND, MOMENT, NOTE, PHRASE, finger),", () -> {
            Check.due("UNKNOWN", KeyFingers.UNKNOWN, UNKNOWN);
            Scene s = Scenes.RICH;
            s.refuses(UNKNOWN, "clear", 2).refuses(UNKNOWN, "swap", 30).refuses(UNKNOWN, "finger", 0, 8)
                .refuses(UNKNOWN, "forget", 24).refuses(UNKNOWN, "costs", 24, 6);
        });
        says("OUTSIDE (another number is not as told),", () -> {
            Check.due("OUTSIDE", KeyFingers.OUTSIDE, OUTSIDE);
            Scene s = Scenes.RICH;
            s.refuses(OUTSIDE, "put", 0, 0, 60).refuses(OUTSIDE, "price", 7, 0).refuses(OUTSIDE, "note", 0, 0, 4)
                .refuses(OUTSIDE, "tie", 0, 0, 1, 2).refuses(OUTSIDE, "help", 2);
        });
        says("STATE (as told);", () -> {
            Check.due("STATE", KeyFingers.STATE, STATE);
            Scenes.RICH.refuses(STATE, "mark", 1, 4, 1).refuses(STATE, "reach", 2, 1, 1, 2, 3)
                .refuses(STATE, "reachOf", 4, 4, 0).refuses(STATE, "tieEcho", 3, 29);
        });
        says("they change nothing.", () -> {
            // Calls that would change much, were the last number another one.
            Scenes.FULL.refuses(UNKNOWN, "clear", -1).refuses(UNKNOWN, "prune", 2).refuses(UNKNOWN, "untie", -1)
                .refuses(UNKNOWN, "swap", -1).refuses(OUTSIDE, "phrase", 0, 1, 28, 13)
                .refuses(OUTSIDE, "tie", 1, 0, 29, 16).refuses(OUTSIDE, "price", 0, 21)
                .refuses(OUTSIDE, "reach", 1, 2, 0, 0, 25).refuses(OUTSIDE, "mark", 0, 5, 6);
        });
        says("NONE is -9.", () -> {
            Check.due("NONE", KeyFingers.NONE, NONE);
            Scene.start().due(NONE, "put", 0, 3, 24).due(NONE, "name", 0).due(NONE, "moment", 0, 1);
        });
    }

    private static void keys() {
        DOCUMENT.at("Terms ==== 1");
        says("==== 1 KEYS 0 .. 59, half a tone from one to the next;", () -> {
            for (int key = 0; key < 60; key++) {
                Scene.start().did(NONE, "put", 1, 7, key).due(key, "note", 1, 0, 1).due(key, "put", 1, 7, NONE);
            }
            Scene.start().due(OUTSIDE, "put", 1, 7, -1).due(OUTSIDE, "put", 1, 7, 60);
            // From key 30 on the easy reach of thumb and second ends at key 35, the whole one at 38.
            Scene.start().due(0, "step", 0, 30, 1, 35, 2).due(1, "step", 0, 30, 1, 36, 2).due(3, "step", 0, 30, 1, 38, 2)
                .due(NONE, "step", 0, 30, 1, 39, 2);
        });
        says("BLACK are those for which what is left by 12 is 1, 3, 6, 8 or 10.", () -> {
            String blacks = "010100101010";
            for (int key = 0; key < 60; key++) {
                Scene.of(0, key).due(blacks.charAt(key % 12) - '0', "note", 0, 0, 3);
            }
        });
        says("HANDS: 0 right, 1 left.", () -> {
            // Up the keys the right hand goes from its thumb to its fifth, the left one the other way.
            Scene.of(0, 24, 26, 28, 29, 31).dueFingers(0, 1, 2, 3, 4, 5).due(UNKNOWN, "finger", 1, 0);
            Scene.of(1, 24, 26, 28, 29, 31).dueFingers(1, 5, 4, 3, 2, 1).due(UNKNOWN, "finger", 0, 0);
            Scene.start().refuses(UNKNOWN, "put", -1, 0, 24).refuses(UNKNOWN, "put", 2, 0, 24);
        });
        says("MOMENTS 0 .. 29; at each a HAND has a KEY, or rests (at first all rest).", () -> {
            for (int m = 0; m < 30; m++) {
                Scene s = Scene.start().due(m, "moment", m, 3).did(NONE, "put", 0, m, 24);
                s.due(m, "moment", 0, 2).due(NONE, "moment", 29, 3).due(24, "put", 0, m, NONE).due(NONE, "put", 1, m, 24);
            }
            Scene.start().refuses(UNKNOWN, "put", 0, -1, 24).refuses(UNKNOWN, "put", 0, 30, 24);
        });
        says("NOTES of a HAND: its KEYS at MOMENTS at which it does not rest, numbered from 0 on in the order of MOMENTS.",
            () -> {
                Scene s = Scene.start().with("put", 0, 20, 40).with("put", 0, 3, 41).with("put", 1, 1, 42)
                    .with("put", 0, 11, 43);
                s.due(3, "note", 0, 0, 0).due(11, "note", 0, 1, 0).due(20, "note", 0, 2, 0)
                    .due(UNKNOWN, "note", 0, 3, 0);
                s.due(41, "note", 0, 0, 1).due(43, "note", 0, 1, 1).due(40, "note", 0, 2, 1).due(42, "note", 1, 0, 1);
                s.with("put", 0, 3, NONE).due(43, "note", 0, 0, 1).due(40, "note", 0, 1, 1)
                    .due(UNKNOWN, "note", 0, 2, 1);
                s.with("put", 0, 0, 44).due(44, "note", 0, 0, 1).due(41, "note", 0, 1, 1).due(40, "note", 0, 3, 1);
                s.with("put", 0, 11, 45).due(45, "note", 0, 1, 1).due(3, "many", 0);
            });
        says("A NOTE may have a MARK: a finger 1 .. 5 (1 the thumb).", () -> {
            Scene s = Scene.of(0, 24, 26).due(NONE, "note", 0, 0, 2).due(NONE, "note", 0, 1, 2);
            for (int f = 1; f <= 5; f++) {
                s.with("mark", 0, 1, f).due(f, "note", 0, 1, 2).due(NONE, "note", 0, 0, 2).due(f, "finger", 0, 1);
            }
            // Of all fingers the thumb alone goes under.
            Scene.start().due(4, "step", 0, 24, 2, 26, 1).due(NONE, "step", 0, 24, 3, 26, 2);
        });
        says("As a HAND gets another KEY (not the one that it has there), or a rest, at a MOMENT, the MARK there is no more.",
            () -> {
                Scene s = Scene.of(0, 24, 26, 28).keys(1, 40, 41).marks(0, 3, 2, 1).marks(1, 4, 5);
                s.with("put", 0, 1, 26).due(5, "many", 2).due(2, "note", 0, 1, 2);
                s.with("put", 0, 1, 38).due(4, "many", 2).due(NONE, "note", 0, 1, 2).due(3, "note", 0, 0, 2)
                    .due(5, "note", 1, 1, 2);
                s.with("put", 0, 1, NONE).due(4, "many", 2).with("put", 0, 1, 26).due(NONE, "note", 0, 1, 2)
                    .due(1, "note", 0, 2, 2);
                s.with("swap", 1).due(3, "many", 2).due(3, "note", 0, 0, 2).due(NONE, "note", 1, 1, 2);
            });
        reachesAndPrices();
    }

    private static void reachesAndPrices() {
        says("REACHES of fingers f and g (f less than g): LEAST, EASY, MOST (0 .. 24, none less than the one ahead);", () -> {
            for (int least = 0; least <= 24; least += 4) {
                for (int easy = 0; easy <= 24; easy += 4) {
                    for (int most = 0; most <= 24; most += 4) {
                        boolean may = least <= easy && easy <= most;
                        Scene s = Scene.start().did(may ? 1 : OUTSIDE, "reach", 2, 5, least, easy, most);
                        s.dueRow("reachOf", new int[] {2, 5}, may ? new int[] {least, easy, most} : new int[] {3, 6, 9});
                    }
                }
            }
            Scene.start().due(OUTSIDE, "reach", 2, 5, -1, 6, 9).due(OUTSIDE, "reach", 2, 5, 3, 6, 25)
                .due(STATE, "reach", 5, 2, 3, 6, 9);
        });
        says("at first: 1 2: 1, 5, 8; 1 3: 2, 7, 10; 1 4: 3, 9, 12; 1 5: 5, 11, 14; 2 3: 1, 2, 4; 2 4: 2, 4, 6; "
            + "2 5: 3, 6, 9; 3 4: 1, 2, 3; 3 5: 2, 4, 6; 4 5: 1, 2, 4.", () -> {
            int[][] all = {{1, 2, 1, 5, 8}, {1, 3, 2, 7, 10}, {1, 4, 3, 9, 12}, {1, 5, 5, 11, 14}, {2, 3, 1, 2, 4},
                {2, 4, 2, 4, 6}, {2, 5, 3, 6, 9}, {3, 4, 1, 2, 3}, {3, 5, 2, 4, 6}, {4, 5, 1, 2, 4}};
            for (int[] r : all) {
                Scene.start().dueRow("reachOf", new int[] {r[0], r[1]}, r[2], r[3], r[4]);
                for (int apart = 1; apart < 30; apart++) {
                    int due = apart < r[2] || apart > r[4] ? NONE : Math.max(0, apart - r[3]);
                    Scene.start().due(due, "step", 0, 20, r[0], 20 + apart, r[1])
                        .due(due, "step", 1, 20 + apart, r[0], 20, r[1]);
                }
            }
        });
        says("PRICES (0 .. 20), at first: 0 BLACK THUMB 3, 1 BLACK FIFTH 1, 2 UNDER 2, 3 JUMP 8, 4 SLIDE 3, 5 AGAIN 1, "
            + "6 FOURTH 1.", () -> {
            int[] first = {3, 1, 2, 8, 3, 1, 1};
            for (int k = 0; k < 7; k++) {
                for (int v = 0; v <= 20; v++) {
                    Scene.start().did(first[k], "price", k, v).due(v, "price", k, 0);
                }
                Scene.start().refuses(OUTSIDE, "price", k, -1).refuses(OUTSIDE, "price", k, 21);
            }
            Scene s = Scene.start();
            s.due(3, "costs", 30, 1).due(1, "costs", 30, 5).due(2 + 3, "step", 0, 24, 3, 27, 1);
            s.due(8, "step", 0, 24, 3, 40, 3).due(3, "step", 0, 30, 3, 29, 3).due(1, "step", 0, 30, 3, 30, 3)
                .due(1, "costs", 30, 4);
        });
    }

    private static void notesAndSteps() {
        DOCUMENT.at("Terms ==== 2");
        says("==== 2 A NOTE with a finger costs BLACK THUMB, if that is 1, and the KEY is BLACK;", () -> {
            Scene s = Scene.start().with("price", THUMB, 13);
            s.due(13, "costs", 30, 1).due(0, "costs", 31, 1).due(0, "costs", 30, 2).due(1, "costs", 30, 5);
            Scene.of(0, 30).with("price", THUMB, 13).due(13, "would", 0, 0, 1).due(0, "best", 0);
        });
        says("BLACK FIFTH, if it is 5, and the KEY is BLACK;", () -> {
            Scene s = Scene.start().with("price", FIFTH, 14);
            s.due(14, "costs", 32, 5).due(0, "costs", 33, 5).due(0, "costs", 32, 3).due(3, "costs", 32, 1);
            Scene.of(1, 32).with("price", FIFTH, 14).due(14, "would", 1, 0, 5);
        });
        says("FOURTH, if it is 4;", () -> {
            Scene s = Scene.start().with("price", FOURTH, 15);
            s.due(15, "costs", 32, 4).due(15, "costs", 33, 4).due(0, "costs", 32, 3).due(1, "costs", 32, 5);
        });
        says("else nothing.", () -> {
            Scene s = Scene.start().with("price", THUMB, 20).with("price", FIFTH, 20).with("price", FOURTH, 20);
            s.due(0, "costs", 25, 2).due(0, "costs", 25, 3).due(0, "costs", 24, 1).due(0, "costs", 24, 2)
                .due(0, "costs", 24, 3).due(0, "costs", 24, 5);
        });
        says("A STEP of a HAND, from finger f on KEY a to finger g on KEY b; d is b - a for the right HAND, a - b for the "
            + "left one; D is d without its sign.", () -> {
            for (int a = 10; a < 26; a++) {
                for (int b = 10; b < 26; b++) {
                    for (int pair = 0; pair < 25; pair++) {
                        int f = 1 + pair / 5, g = 1 + pair % 5;
                        // Of the same finger it decides which of the keys is black.
                        if (f != g) {
                            int right = Scene.start().answer("step", 0, a, f, b, g);
                            Scene.start().due(right, "step", 1, b, f, a, g).due(right, "step", 0, b, g, a, f)
                                .due(right, "step", 1, a, g, b, f);
                        }
                    }
                }
            }
        });
        says("If d is 0: it costs AGAIN, if f is g, else nothing.", () -> {
            Scene s = Scene.start().with("price", AGAIN, 12).with("reach", 2, 3, 1, 2, 4);
            s.due(12, "step", 0, 37, 3, 37, 3).due(12, "step", 1, 37, 1, 37, 1).due(0, "step", 0, 37, 2, 37, 3)
                .due(0, "step", 1, 37, 5, 37, 1);
        });
        says("Else if f is g: SLIDE, if a is BLACK, b is not, and D is 1;", () -> {
            Scene s = Scene.start().with("price", SLIDE, 11);
            for (int hand = 0; hand < 2; hand++) {
                s.due(11, "step", hand, 30, 4, 31, 4).due(11, "step", hand, 30, 4, 29, 4);
                s.due(8, "step", hand, 31, 4, 30, 4).due(8, "step", hand, 28, 4, 29, 4).due(8, "step", hand, 30, 4, 33, 4)
                    .due(8, "step", hand, 30, 4, 32, 4);
            }
        });
        says("else JUMP.", () -> {
            Scene s = Scene.start().with("price", JUMP, 17);
            for (int hand = 0; hand < 2; hand++) {
                s.due(17, "step", hand, 31, 2, 33, 2).due(17, "step", hand, 59, 1, 0, 1).due(17, "step", hand, 31, 5, 30, 5)
                    .due(3, "step", hand, 30, 5, 31, 5).due(1, "step", hand, 30, 5, 30, 5);
            }
        });
        reachesAndThumbs();
    }

    private static void reachesAndThumbs() {
        says("Else if d is above 0 and f less than g, or d below 0 and f greater than g: by the REACH of the two fingers:", () -> {
            // A reach that none of the other ways to go can tell from any other.
            Scene s = Scene.start().with("reach", 2, 4, 9, 10, 20);
            s.due(5, "step", 0, 20, 2, 35, 4).due(5, "step", 0, 35, 4, 20, 2).due(5, "step", 1, 35, 2, 20, 4)
                .due(5, "step", 1, 20, 4, 35, 2);
            s.due(NONE, "step", 0, 35, 2, 20, 4).due(NONE, "step", 0, 20, 4, 35, 2).due(NONE, "step", 1, 20, 2, 35, 4)
                .due(NONE, "step", 1, 35, 4, 20, 2);
            s.due(NONE, "step", 0, 20, 2, 35, 3).due(NONE, "step", 0, 20, 3, 35, 4);
        });
        says("it can't be, if D is less than LEAST or above MOST;", () -> {
            Scene s = Scene.start().with("reach", 1, 3, 4, 4, 6);
            int[] due = {NONE, NONE, NONE, 0, 1, 2, NONE, NONE};
            for (int apart = 1; apart <= due.length; apart++) {
                s.due(due[apart - 1], "step", 0, 30, 1, 30 + apart, 3).due(due[apart - 1], "step", 1, 30 + apart, 1, 30, 3);
            }
            Scene.of(0, 31, 34).marks(0, 1, 3).due(0, "best", 0).with("reach", 1, 3, 4, 4, 6).due(NONE, "best", 0);
        });
        says("it costs by how much D is above EASY (0, if it is not).", () -> {
            Scene s = Scene.start().with("reach", 1, 5, 0, 3, 24);
            for (int apart = 1; apart <= 24; apart++) {
                s.due(Math.max(0, apart - 3), "step", 0, 30, 1, 30 + apart, 5);
            }
            Scene.of(0, 24, 36).marks(0, 1, 5).due(1, "best", 0);
        });
        says("Else, if one of f, g is 1, the other one not 5, and D is 5 or less: UNDER and D.", () -> {
            Scene s = Scene.start().with("price", UNDER, 6);
            for (int apart = 1; apart <= 7; apart++) {
                int due = apart <= 5 ? 6 + apart : NONE;
                for (int other = 2; other <= 5; other++) {
                    int here = other == 5 ? NONE : due;
                    s.due(here, "step", 0, 30, other, 30 + apart, 1).due(here, "step", 0, 30 + apart, 1, 30, other);
                    s.due(here, "step", 1, 30 + apart, other, 30, 1).due(here, "step", 1, 30, 1, 30 + apart, other);
                }
            }
        });
        says("Else it can't be.", () -> {
            Scene s = Scene.start();
            s.due(NONE, "step", 0, 30, 3, 31, 2).due(NONE, "step", 0, 31, 2, 30, 5).due(NONE, "step", 1, 30, 2, 31, 4)
                .due(NONE, "step", 0, 30, 5, 31, 1).due(NONE, "step", 0, 30, 4, 36, 1);
            Scene.of(0, 30, 31).marks(0, 3, 2).due(NONE, "best", 0).due(1, "stuck", 0);
        });
    }

    private static void rows() {
        says("A ROW: a finger for each NOTE of a HAND,", () -> forSome(rows -> {
            int[] best = rows.best();
            Scene s = rows.scene();
            for (int k = 0; k < rows.keys.length; k++) {
                int finger = s.answer("finger", rows.hand, k);
                boolean good = best == null ? finger == NONE : finger >= 1 && finger <= 5;
                Check.due("note " + k + " has a finger", good ? 1 : 0, 1);
            }
            s.due(UNKNOWN, "finger", rows.hand, rows.keys.length);
        }));
        says("one that is MARKED its MARK,", () -> forSome(rows -> {
            for (int k = 0; rows.best() != null && k < rows.keys.length; k++) {
                if (rows.marks[k] != NONE) {
                    rows.scene().due(rows.marks[k], "finger", rows.hand, k);
                }
            }
        }));
        says("all STEPS from each NOTE to the next such as can be,", () -> {
            Scene s = Scene.of(0, 21, 23, 40, 41).due(8, "best", 0);
            s.marks(0, NONE, 2, 3).due(NONE, "best", 0).marks(0, NONE, 2, 2).due(8, "best", 0);
            // A rest between them is no note: the step goes from one note to the next.
            Scene.of(0, 20, NONE, NONE, 40).marks(0, 2, NONE, NONE, 3).due(NONE, "best", 0).with("put", 0, 1, 30)
                .due(NONE, "best", 0).with("price", JUMP, 0).due(NONE, "best", 0);
            forSome(rows -> Check.due("a row", rows.scene().answer("best", rows.hand) == NONE ? 0 : 1,
                rows.best() == null ? 0 : 1));
        });
        says("TIED NOTES (see 3) alike.", () -> forSome(rows -> {
            for (int k = 0; rows.best() != null && rows.tie != null && k < rows.tie[2]; k++) {
                Scene s = rows.scene();
                s.due(s.answer("finger", rows.hand, rows.tie[0] + k), "finger", rows.hand, rows.tie[1] + k);
            }
        }));
        says("It costs what NOTES and STEPS cost.", () -> forSome(rows -> {
            Scene s = rows.scene();
            int cost = 0;
            for (int k = 0; rows.best() != null && k < rows.keys.length; k++) {
                int f = s.answer("finger", rows.hand, k);
                cost += s.answer("costs", rows.keys[k], f);
                if (k > 0) {
                    int ahead = s.answer("finger", rows.hand, k - 1);
                    cost += s.answer("step", rows.hand, rows.keys[k - 1], ahead, rows.keys[k], f);
                }
            }
            s.due(rows.best() == null ? NONE : cost, "best", rows.hand);
        }));
        says("BEST ROW: the one that costs the least;", () -> forSome(rows ->
            rows.scene().due(rows.cost(), "best", rows.hand)));
        says("of several that with the lesser finger at the first NOTE at which they differ.", () -> forSome(rows -> {
            int[] none = new int[rows.keys.length];
            Arrays.fill(none, NONE);
            rows.scene().dueFingers(rows.hand, rows.best() == null ? none : rows.best());
        }));
        says("(Without NOTES: one that costs 0.)", () -> {
            Scene.start().due(0, "best", 0).due(0, "best", 1).due(0, "sum").due(NONE, "stuck", 0).due(0, "tied", 1);
            Scene.of(0, 30).marks(0, 1).due(3, "best", 0).with("put", 0, 0, NONE).due(0, "best", 0);
        });
    }

    private static void ties() {
        DOCUMENT.at("Terms ==== 3");
        says("==== 3 A TIE of a HAND, one at most:", () -> {
            Scene s = Scene.of(0, 24, 24, 24, 24).keys(1, 24, 24).with("tie", 0, 0, 1, 1).with("tie", 1, 0, 1, 1);
            s.due(2, "many", 4).dueFingers(0, 1, 1, 2, 1).dueFingers(1, 1, 1);
            s = s.with("tie", 0, 2, 3, 1).due(2, "many", 4).dueFingers(0, 1, 2, 1, 1).dueFingers(1, 1, 1);
            s.did(1, "untie", 0).due(0, "untie", 0).dueFingers(0, 1, 2, 1, 2).due(1, "many", 4);
        });
        says("NOTES i .. i + n - 1 and j .. j + n - 1, with n 1 or more, i + n not above j: NOTE i + k has the same finger as "
            + "NOTE j + k, for each k.", () -> {
            for (int n = 1; n <= 4; n++) {
                for (int i = 0; i + 2 * n <= 9; i++) {
                    for (int j = i + n; j + n <= 9; j++) {
                        Scene s = Scene.of(0, 24, 24, 24, 24, 24, 24, 24, 24, 24).did(1, "tie", 0, i, j, n);
                        for (int k = 0; k < n; k++) {
                            s.with("mark", 0, j + k, 5).due(5, "finger", 0, i + k);
                            s.with("mark", 0, i + k, 4).due(4, "finger", 0, j + k).due(NONE, "would", 0, j + k, 5);
                        }
                        s.due(i + n > j - 1 ? OUTSIDE : 1, "tie", 0, i, j - 1, n);
                    }
                }
            }
            Scene.of(0, 24, 24).due(OUTSIDE, "tie", 0, 0, 1, 0);
        });
        says("It is told by numbers and stays so;", () -> {
            // Notes 1 and 2 are tied, whichever they are.
            Scene s = Scene.of(1, 24, 24, 24, 24).with("tie", 1, 1, 2, 1).with("mark", 1, 1, 3);
            s.dueFingers(1, 1, 3, 3, 1);
            s.with("put", 1, 0, NONE).dueFingers(1, 3, 1, 1).due(1, "many", 4);
            s.with("put", 1, 3, NONE).dueFingers(1, 1, 3, 3);
            s.with("put", 1, 0, NONE).with("put", 1, 2, NONE).dueFingers(1, 3, 1).due(0, "many", 4).due(1, "untie", 1);
        });
        says("while there are fewer than j + n NOTES it does not hold.", () -> {
            // While it holds, notes 2 and 3 strike the same key with the same finger.
            Scene s = Scene.start().did(0, "tie", 0, 2, 3, 1);
            for (int notes = 1; notes <= 6; notes++) {
                int holds = notes < 4 ? 0 : 1;
                s = s.with("put", 0, 3 * notes, 24).due(holds, "many", 4).due(holds, "best", 0).due(holds, "tied", 0)
                    .due(holds, "tie", 0, 2, 3, 1).due(1, "untie", 0);
            }
            for (int notes = 5; notes >= 0; notes--) {
                int holds = notes < 4 ? 0 : 1;
                s = s.with("put", 0, 3 * (6 - notes), NONE).due(holds, "many", 4).due(holds, "best", 0).due(1, "untie", 0);
            }
        });
        says("STUCK: if there is no ROW: the least k so that for NOTES 0 .. k alone there is none without the TIE;", () ->
            forSome(rows -> rows.scene().due(stuckOf(rows), "stuck", rows.hand)));
        says("99, if there is no such k (it is the TIE).", () -> {
            int[] seen = new int[1];
            forSome(rows -> seen[0] += stuckOf(rows) == 99 ? 1 : 0);
            Check.due("some of the hands tried are stuck by their tie", seen[0] > 10 ? 1 : 0, 1);
            Scene s = Scene.of(1, 24, 59).with("tie", 1, 0, 1, 1).due(NONE, "stuck", 1);
            s.marks(1, 1, 2).due(1, "stuck", 1).with("reach", 1, 2, 0, 0, 24).due(1, "stuck", 1);
            Scene.of(1, 24, 26).with("tie", 1, 0, 1, 1).due(NONE, "stuck", 1).marks(1, 2, 1).due(99, "stuck", 1)
                .with("untie", 1).due(NONE, "stuck", 1);
        });
    }

    private static int stuckOf(AllRows rows) {
        if (rows.best() != null) {
            return NONE;
        }
        for (int k = 0; k < rows.keys.length; k++) {
            if (rows.upTo(k).best() == null) {
                return k;
            }
        }
        return 99;
    }

    private static void phrases() {
        DOCUMENT.at("Terms ==== 4");
        says("==== 4 PHRASES have names 0 .. 25; 6 at most:", () -> {
            Scene s = Scene.start();
            for (int name = 0; name < 26; name++) {
                s = s.did(Math.min(6, name + 1), "phrase", name, name % 2, 0, 2).due(Math.min(6, name + 1), "many", 3);
            }
            s.dueNames(20, 21, 22, 23, 24, 25).refuses(OUTSIDE, "phrase", 26, 0, 0, 2)
                .refuses(OUTSIDE, "phrase", -1, 0, 0, 2);
        });
        says("a HAND, its NOTES i .. i + n - 1 (told by numbers; n 2 .. 12), in the order in which they came;", () -> {
            Scene s = Scene.of(0, 20, 30, 31, 33, 41, 43).keys(1, 30, 31, 20, 21).with("phrase", 8, 0, 2, 2)
                .with("phrase", 2, 1, 0, 2);
            // 31 33 comes again as 41 43; without note 0 it is 33 41 that is looked for.
            s.dueNames(8, 2).due(4, "echo", 8, 0, 0).due(2, "echo", 2, 0, 0);
            s.with("put", 0, 0, NONE).due(NONE, "echo", 8, 0, 0).due(2, "echo", 2, 0, 0);
            for (int n = 0; n <= 14; n++) {
                s.due(n >= 2 && n <= 12 ? 3 : OUTSIDE, "phrase", 5, 0, 0, n);
            }
        });
        says("one more takes the place of the eldest;", () -> {
            Scene s = Scene.start();
            for (int name : new int[] {14, 3, 8, 25, 0, 11}) {
                s = s.with("phrase", name, 0, name, 2);
            }
            s = s.dueNames(14, 3, 8, 25, 0, 11).did(6, "phrase", 4, 1, 0, 2).dueNames(3, 8, 25, 0, 11, 4)
                .due(UNKNOWN, "forget", 14);
            s.did(6, "phrase", 14, 1, 0, 2).dueNames(8, 25, 0, 11, 4, 14).due(UNKNOWN, "echo", 3, 0, 0);
        });
        says("one with a name that there is goes, and comes behind all.", () -> {
            Scene s = Scene.of(0, 24, 26, 25, 27, 30).with("phrase", 6, 0, 0, 2).with("phrase", 7, 0, 0, 2)
                .with("phrase", 8, 0, 0, 2);
            s.did(3, "phrase", 7, 0, 1, 2).dueNames(6, 8, 7).due(2, "echo", 6, 0, 0).due(NONE, "echo", 7, 0, 0);
            s.did(3, "phrase", 6, 0, 0, 2).dueNames(7, 8, 6).did(3, "phrase", 6, 0, 0, 2).dueNames(7, 8, 6);
        });
        echoes();
    }

    private static void echoes() {
        says("An ECHO of a PHRASE (all whose NOTES are there):", () -> {
            Scene s = Scene.start().with("phrase", 1, 0, 1, 2).due(NONE, "echo", 1, 0, 0);
            int[] keys = {24, 26, 28, 30, 32};
            for (int m = 0; m < keys.length; m++) {
                s = s.with("put", 0, m, keys[m]).due(m < 4 ? NONE : 3, "echo", 1, 0, 0);
            }
        });
        says("a NOTE j, not less than i + n,", () -> {
            Scene s = Scene.of(1, 24, 25, 26, 27, 28, 29, 30, 31);
            for (int i = 0; i <= 6; i++) {
                for (int n = 2; n <= 6; n++) {
                    for (int k = 0; k < 6; k++) {
                        int j = i + n + k;
                        s.with("phrase", 0, 1, i, n).due(j + n <= 8 ? j : NONE, "echo", 0, k, 0);
                    }
                }
            }
        });
        says("so that KEY j + k less KEY i + k is the same number for all k 0 .. n - 1", () -> {
            Scene s = Scene.of(0, 24, 27, 25, 34, 37, 35, 14, 17, 15, 24, 27, 26).with("phrase", 0, 0, 0, 3);
            s.due(3, "echo", 0, 0, 0).due(6, "echo", 0, 1, 0).due(NONE, "echo", 0, 2, 0);
            s.with("phrase", 0, 0, 0, 2).due(3, "echo", 0, 0, 0).due(6, "echo", 0, 1, 0).due(9, "echo", 0, 2, 0)
                .due(NONE, "echo", 0, 3, 0);
            s.with("put", 0, 11, 25).due(9, "echo", 0, 2, 0).with("put", 0, 9, 23).due(NONE, "echo", 0, 2, 0);
        });
        says("(all these NOTES of the same HAND being there).", () -> {
            Scene s = Scene.of(0, 24, 26, 28).keys(1, NONE, NONE, NONE, 30, 24, 26, 28, 30).with("phrase", 0, 0, 0, 2)
                .with("phrase", 1, 1, 1, 2);
            s.due(NONE, "echo", 0, 0, 0).due(3, "echo", 1, 0, 0).with("swap", 7).due(2, "echo", 0, 0, 0)
                .due(NONE, "echo", 1, 0, 0);
        });
        says("LIKENESS of an ECHO: for how many k both KEYS are BLACK or both are not.", () -> {
            // 24 white, 25 black, 28 white; each is moved by 0 to 11 keys.
            String blacks = "010100101010";
            for (int by = 0; by < 12; by++) {
                int like = 0;
                for (int key : new int[] {0, 1, 4}) {
                    like += blacks.charAt(key) == blacks.charAt((key + by) % 12) ? 1 : 0;
                }
                Scene.of(0, 24, 25, 28, 24 + by, 25 + by, 28 + by).with("phrase", 0, 0, 0, 3).due(3, "echo", 0, 0, 0)
                    .due(like, "echo", 0, 0, 1);
            }
        });
    }

    private static void twoHands() {
        DOCUMENT.at("Terms ==== 5");
        says("==== 5 A MOMENT at which both HANDS have a KEY is CROSSED, if the right one's is less than the left one's,", () -> {
            Scene s = Scene.of(0, 30, 31, 32, NONE, 20).keys(1, 31, 31, 31, 31);
            s.due(1, "many", 5).due(0, "moment", 0, 0).due(NONE, "moment", 1, 0);
            s.with("put", 1, 4, 21).due(2, "many", 5).due(4, "moment", 1, 0).with("put", 1, 4, 19).due(1, "many", 5);
            s.with("swap", 0).due(0, "many", 5).with("swap", 2).due(1, "many", 5).due(2, "moment", 0, 0);
        });
        says("a CLASH, if they are the same.", () -> {
            Scene s = Scene.of(0, 30, 31, 32, NONE, 20).keys(1, 31, 31, 31, 31);
            s.due(1, "many", 6).due(1, "moment", 0, 1).due(NONE, "moment", 1, 1);
            s.with("put", 1, 4, 20).due(2, "many", 6).due(4, "moment", 1, 1).with("swap", 4).due(2, "many", 6);
        });
        says("SUM: what the BEST ROWS of both HANDS cost together;", () -> {
            for (long seed = 1; seed <= 150; seed++) {
                Scene s = AllRows.bothHands(seed);
                int right = s.answer("best", 0), left = s.answer("best", 1);
                if (right != NONE && left != NONE) {
                    s.due(right + left, "sum");
                }
            }
        });
        says("NONE, if one has none.", () -> {
            int[] seen = new int[3];
            for (long seed = 1; seed <= 150; seed++) {
                Scene s = AllRows.bothHands(seed);
                int without = (s.answer("best", 0) == NONE ? 1 : 0) + (s.answer("best", 1) == NONE ? 1 : 0);
                seen[without]++;
                if (without > 0) {
                    s.due(NONE, "sum");
                }
            }
            Check.due("hands of both kinds were tried", seen[0] > 10 && seen[1] > 10 ? 1 : 0, 1);
        });
        swapsAndHelp();
    }

    private static void swapsAndHelp() {
        says("A SWAP of a MOMENT: HANDS change what they have there (KEY or rest;", () -> {
            Scene s = Scene.of(0, 30, 31, NONE, 33).keys(1, 40, NONE, 42, 33);
            s.with("swap", 0).tellsTheSameAs(Scene.of(0, 40, 31, NONE, 33).keys(1, 30, NONE, 42, 33));
            s.with("swap", 1).tellsTheSameAs(Scene.of(0, 30, NONE, NONE, 33).keys(1, 40, 31, 42, 33));
            s.with("swap", 2).tellsTheSameAs(Scene.of(0, 30, 31, 42, 33).keys(1, 40, NONE, NONE, 33));
            s.changesNothing("swap", 3).changesNothing("swap", 4);
        });
        says("MARKS there are no more, unless both KEYS are the same).", () -> {
            Scene s = Scene.of(0, 30, 31, 33, 34).keys(1, 40, NONE, 33, 33).marks(0, 1, 2, 3, 4).marks(1, 5, NONE, 4, 3);
            s.with("swap", 0).due(5, "many", 2).due(NONE, "note", 0, 0, 2).due(NONE, "note", 1, 0, 2);
            s.with("swap", 1).due(6, "many", 2).due(NONE, "note", 1, 1, 2).due(1, "note", 0, 0, 2);
            s.changesNothing("swap", 2).with("swap", 2).due(3, "note", 0, 2, 2).due(4, "note", 1, 1, 2);
            s.with("swap", 3).due(5, "many", 2).with("swap", 3).due(5, "many", 2);
        });
        says("HELP: of all MOMENTS the one with the least SUM behind a SWAP of it alone,", () -> {
            for (long seed = 1; seed <= 150; seed++) {
                Scene s = AllRows.bothHands(seed);
                int[] help = helpOf(s);
                s.due(help[0], "help", 0).due(help[1], "help", 1);
            }
        });
        says("if there is one with a SUM at all,", () -> {
            // Each hand keeps a step that can't be, whichever moment is swapped.
            Scene s = Scene.of(0, 0, 59, 0, 59).marks(0, 1, 2, 1, 2).due(NONE, "sum");
            for (int m = 0; m < 30; m++) {
                s.due(NONE, "swap", m);
            }
            s.due(NONE, "help", 0).due(NONE, "help", 1);
            s.with("mark", 0, 1, 1).due(NONE, "sum").due(NONE, "swap", 1).due(8, "swap", 2).due(16, "swap", 3)
                .due(2, "help", 0).due(8, "help", 1);
        });
        says("and that is less than SUM as it is (or SUM is NONE);", () -> {
            Scene s = Scene.of(0, 0, 59).keys(1, 0, 59).due(16, "sum").due(16, "swap", 0).due(16, "swap", 1);
            s.due(NONE, "help", 0).due(NONE, "help", 1);
            s.with("put", 1, 1, NONE).due(8, "sum").due(8, "swap", 0).due(8, "swap", 1).due(NONE, "help", 0);
            s.with("clear", 1).due(8, "sum").due(0, "swap", 0).due(0, "help", 0).due(0, "help", 1);
            s.marks(0, 1, 2).with("clear", 1).due(NONE, "sum").due(0, "help", 0).due(0, "help", 1);
        });
        says("of several the first.", () -> {
            Scene s = Scene.start().with("put", 0, 12, 0).with("put", 0, 17, 59);
            s.due(0, "swap", 12).due(0, "swap", 17).due(12, "help", 0);
            s.with("put", 0, 25, 59).due(12, "help", 0).due(0, "help", 1).with("put", 0, 12, 59).with("put", 0, 25, 0)
                .due(25, "help", 0);
        });
    }

    /** What HELP is, by swaps made on objects of their own: the moment, the sum behind it. */
    private static int[] helpOf(Scene s) {
        int now = s.answer("sum");
        int[] help = {NONE, NONE};
        for (int m = 0; m < 30; m++) {
            int behind = s.answer("swap", m);
            boolean less = behind != NONE && (now == NONE || behind < now);
            if (less && (help[0] == NONE || behind < help[1])) {
                help[0] = m;
                help[1] = behind;
            }
        }
        return help;
    }

    private static void parts() {
        DOCUMENT.at("Ahead of the calls");
        says("Ahead of the calls `put`, `mark`, `reach`, `reachOf`, `price`, `clear`, `note` the interface says: ---- 1 keys.",
            () -> Source.hasPart("---- 1 keys", "put", "mark", "reach", "reachOf", "price", "clear", "note"));
        says("Ahead of the calls `costs`, `step`, `best`, `finger`, `would` the interface says: ---- 2 rows.",
            () -> Source.hasPart("---- 2 rows", "costs", "step", "best", "finger", "would"));
        says("Ahead of the calls `tie`, `untie`, `tied`, `stuck` the interface says: ---- 3 ties.",
            () -> Source.hasPart("---- 3 ties", "tie", "untie", "tied", "stuck"));
        says("Ahead of the calls `phrase`, `forget`, `prune`, `name`, `echo`, `tieEcho` the interface says: ---- 4 phrases.",
            () -> Source.hasPart("---- 4 phrases", "phrase", "forget", "prune", "name", "echo", "tieEcho"));
        says("Ahead of the calls `moment`, `sum`, `swap`, `help`, `many` the interface says: ---- 5 two hands.",
            () -> Source.hasPart("---- 5 two hands", "moment", "sum", "swap", "help", "many"));
    }

    public static void main(String[] args) {
        whatItIs();
        refusals();
        keys();
        notesAndSteps();
        rows();
        ties();
        phrases();
        twoHands();
        parts();
        DOCUMENT.wasAllSaid("## What it is", "## Promise 1:");
        Check.end();
    }
}
