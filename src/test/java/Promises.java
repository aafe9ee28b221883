/** One test for each promise of the document, with answers worked out by hand. */
public final class Promises {
    private static final int UNKNOWN = -1, OUTSIDE = -2, STATE = -3, NONE = -9;
    private static final int LOW = Integer.MIN_VALUE, HIGH = Integer.MAX_VALUE;
    private static final int[] WRONG_HANDS = {-1, 2, NONE, LOW, HIGH};
    private static final int[] WRONG_MOMENTS = {-1, 30, NONE, LOW, HIGH};
    private static final int[] WRONG_FINGERS = {0, 6, -1, NONE, LOW, HIGH};
    private static final int[] WRONG_KEYS = {-1, 60, NONE, LOW, HIGH};
    private static final int[][] REACHES = {
        {1, 2, 1, 5, 8}, {1, 3, 2, 7, 10}, {1, 4, 3, 9, 12}, {1, 5, 5, 11, 14}, {2, 3, 1, 2, 4},
        {2, 4, 2, 4, 6}, {2, 5, 3, 6, 9}, {3, 4, 1, 2, 3}, {3, 5, 2, 4, 6}, {4, 5, 1, 2, 4}};
    private static final int[] PRICES = {3, 1, 2, 8, 3, 1, 1};

    private static int promise;
    private static int wrongHere;
    private static int passed;
    private static int failed;

    private static void due(String call, int got, int want) {
        if (got != want) {
            wrongHere++;
            System.out.println("promise " + promise + ": " + call + " answered " + got + ", due is " + want);
        }
    }

    private static void end() {
        if (wrongHere == 0) {
            passed++;
        } else {
            failed++;
        }
        wrongHere = 0;
        promise++;
    }

    private static KeyFingers playing(int hand, int... keys) {
        KeyFingers x = new KeyFingers();
        for (int m = 0; m < keys.length; m++) {
            x.put(hand, m, keys[m]);
        }
        return x;
    }

    private static void dueFingers(KeyFingers x, int hand, int... fingers) {
        for (int k = 0; k < fingers.length; k++) {
            due("finger(" + hand + ", " + k + ")", x.finger(hand, k), fingers[k]);
        }
        due("finger behind the last", x.finger(hand, fingers.length), UNKNOWN);
    }

    private static void dueNames(KeyFingers x, int... names) {
        due("many(3)", x.many(3), names.length);
        for (int k = 0; k < 6; k++) {
            due("name(" + k + ")", x.name(k), k < names.length ? names[k] : NONE);
        }
    }

    private static void newObject() {
        KeyFingers x = new KeyFingers();
        for (int what = 0; what < 7; what++) {
            due("many(" + what + ")", x.many(what), 0);
        }
        for (int k = 0; k < 30; k++) {
            due("moment(" + k + ", 3)", x.moment(k, 3), k);
        }
        for (int what = 0; what < 3; what++) {
            due("moment(0, " + what + ")", x.moment(0, what), NONE);
        }
        for (int hand = 0; hand < 2; hand++) {
            due("best", x.best(hand), 0);
            due("stuck", x.stuck(hand), NONE);
            due("tied", x.tied(hand), 0);
            due("untie", x.untie(hand), 0);
            due("note", x.note(hand, 0, 0), UNKNOWN);
        }
        due("sum", x.sum(), 0);
        due("help(0)", x.help(0), NONE);
        due("help(1)", x.help(1), NONE);
        dueNames(x);
        for (int[] r : REACHES) {
            for (int what = 0; what < 3; what++) {
                due("reachOf " + r[0] + " " + r[1], x.reachOf(r[0], r[1], what), r[2 + what]);
            }
        }
        for (int k = 0; k < 7; k++) {
            due("price(" + k + ")", x.price(k, 20), PRICES[k]);
        }
        x.reach(1, 2, 0, 0, 0);
        KeyFingers y = new KeyFingers();
        due("price of another object", y.price(3, 3), 8);
        due("reachOf of another object", y.reachOf(1, 2, 2), 8);
        end();
    }

    private static void put() {
        KeyFingers x = new KeyFingers();
        due("put(0, 0, 0)", x.put(0, 0, 0), NONE);
        due("put(0, 0, 59)", x.put(0, 0, 59), 0);
        due("put(1, 0, 7)", x.put(1, 0, 7), NONE);
        due("put(0, 0, NONE)", x.put(0, 0, NONE), 59);
        due("put(0, 0, NONE)", x.put(0, 0, NONE), NONE);
        due("put(1, 0, 7)", x.put(1, 0, 7), 7);
        due("put(1, 29, 59)", x.put(1, 29, 59), NONE);
        due("put(1, 14, 3)", x.put(1, 14, 3), NONE);
        due("note(1, 1, 0)", x.note(1, 1, 0), 14);
        due("note(1, 2, 0)", x.note(1, 2, 0), 29);
        for (int hand : WRONG_HANDS) {
            due("put hand " + hand, x.put(hand, 0, 60), UNKNOWN);
        }
        for (int m : WRONG_MOMENTS) {
            due("put moment " + m, x.put(0, m, 60), UNKNOWN);
        }
        for (int key : new int[] {-1, 60, -8, -10, LOW, HIGH}) {
            due("put key " + key, x.put(1, 0, key), OUTSIDE);
        }
        due("note(1, 0, 1)", x.note(1, 0, 1), 7);
        x.mark(1, 0, 4);
        x.put(1, 0, 7);
        due("mark with the same key", x.note(1, 0, 2), 4);
        x.put(1, 0, 19);
        due("mark with another key", x.note(1, 0, 2), NONE);
        x.mark(1, 0, 4);
        x.put(1, 0, NONE);
        x.put(1, 0, 19);
        due("mark behind a rest", x.note(1, 0, 2), NONE);
        end();
    }

    private static void mark() {
        KeyFingers x = playing(0, 24);
        due("mark 1", x.mark(0, 0, 1), NONE);
        due("mark 5", x.mark(0, 0, 5), 1);
        due("mark NONE", x.mark(0, 0, NONE), 5);
        due("mark NONE", x.mark(0, 0, NONE), NONE);
        due("mark 3", x.mark(0, 0, 3), NONE);
        for (int hand : WRONG_HANDS) {
            due("mark hand " + hand, x.mark(hand, 0, 6), UNKNOWN);
        }
        for (int m : WRONG_MOMENTS) {
            due("mark moment " + m, x.mark(0, m, 6), UNKNOWN);
        }
        for (int f : new int[] {0, 6, -1, -8, -10, LOW, HIGH}) {
            due("mark f " + f, x.mark(0, 0, f), OUTSIDE);
            due("mark f at a rest " + f, x.mark(0, 1, f), OUTSIDE);
        }
        due("mark at a rest", x.mark(0, 1, 1), STATE);
        due("mark NONE at a rest", x.mark(0, 1, NONE), STATE);
        due("mark of the other hand", x.mark(1, 0, 1), STATE);
        due("what it has", x.note(0, 0, 2), 3);
        due("many(2)", x.many(2), 1);
        due("finger", x.finger(0, 0), 3);
        end();
    }

    private static void reach() {
        KeyFingers x = new KeyFingers();
        for (int[] r : REACHES) {
            int low = r[0], high = r[1] + 5;
            due("reach", x.reach(r[0], r[1], low, high, 24), 1);
        }
        for (int[] r : REACHES) {
            due("least", x.reachOf(r[0], r[1], 0), r[0]);
            due("easy", x.reachOf(r[0], r[1], 1), r[1] + 5);
            due("most", x.reachOf(r[0], r[1], 2), 24);
        }
        due("reach all 0", x.reach(1, 2, 0, 0, 0), 1);
        due("step", x.step(0, 24, 1, 25, 2), NONE);
        due("reach all 24", x.reach(1, 2, 24, 24, 24), 1);
        due("step", x.step(0, 24, 1, 48, 2), 0);
        due("step", x.step(0, 24, 1, 47, 2), NONE);
        for (int f : WRONG_FINGERS) {
            due("reach f " + f, x.reach(f, 2, -1, 0, 0), UNKNOWN);
            due("reach g " + f, x.reach(1, f, -1, 0, 0), UNKNOWN);
        }
        due("least below 0", x.reach(1, 2, -1, 3, 6), OUTSIDE);
        due("most above 24", x.reach(1, 2, 1, 3, 25), OUTSIDE);
        due("all above 24", x.reach(1, 2, 25, 25, 25), OUTSIDE);
        due("easy below least", x.reach(1, 2, 4, 3, 6), OUTSIDE);
        due("most below easy", x.reach(1, 2, 4, 6, 5), OUTSIDE);
        due("most far above", x.reach(1, 2, 1, 3, HIGH), OUTSIDE);
        due("least far below", x.reach(1, 2, LOW, 3, 6), OUTSIDE);
        due("OUTSIDE ahead of STATE", x.reach(2, 1, 4, 3, 6), OUTSIDE);
        due("f is g", x.reach(2, 2, 1, 3, 6), STATE);
        due("f above g", x.reach(5, 1, 1, 3, 6), STATE);
        due("reachOf", x.reachOf(1, 2, 0), 24);
        due("reachOf", x.reachOf(1, 5, 1), 10);
        end();
    }

    private static void reachOf() {
        KeyFingers x = new KeyFingers();
        for (int[] r : REACHES) {
            for (int what = 0; what < 3; what++) {
                due("reachOf", x.reachOf(r[0], r[1], what), r[2 + what]);
                due("reachOf other way", x.reachOf(r[1], r[0], what), STATE);
            }
        }
        for (int f : WRONG_FINGERS) {
            due("reachOf f " + f, x.reachOf(f, 2, 3), UNKNOWN);
            due("reachOf g " + f, x.reachOf(1, f, 3), UNKNOWN);
        }
        for (int what : new int[] {-1, 3, NONE, LOW, HIGH}) {
            due("reachOf what " + what, x.reachOf(1, 2, what), OUTSIDE);
            due("reachOf what ahead of STATE " + what, x.reachOf(2, 2, what), OUTSIDE);
        }
        due("reachOf 3 3", x.reachOf(3, 3, 0), STATE);
        end();
    }

    private static void price() {
        KeyFingers x = new KeyFingers();
        for (int k = 0; k < 7; k++) {
            due("price", x.price(k, 10 + k), PRICES[k]);
        }
        for (int k = 0; k < 7; k++) {
            for (int v : new int[] {-1, 21, NONE, LOW, HIGH}) {
                due("price v " + v, x.price(k, v), OUTSIDE);
            }
            due("price", x.price(k, 20), 10 + k);
            due("price", x.price(k, 0), 20);
            due("price", x.price(k, 10 + k), 0);
        }
        for (int k : new int[] {-1, 7, NONE, LOW, HIGH}) {
            due("price k " + k, x.price(k, 1), OUTSIDE);
        }
        due("BLACK THUMB", x.costs(25, 1), 10);
        due("BLACK FIFTH", x.costs(25, 5), 11);
        due("UNDER", x.step(0, 24, 2, 26, 1), 12 + 2);
        due("JUMP", x.step(0, 24, 2, 26, 2), 13);
        due("SLIDE", x.step(0, 25, 2, 26, 2), 14);
        due("AGAIN", x.step(0, 24, 2, 24, 2), 15);
        due("FOURTH", x.costs(25, 4), 16);
        end();
    }

    private static void clear() {
        KeyFingers x = playing(0, 24, 26, 28);
        x.put(1, 4, 30);
        x.mark(0, 1, 2);
        x.mark(1, 4, 2);
        x.tie(0, 0, 2, 1);
        x.phrase(1, 0, 0, 2);
        for (int hand : WRONG_HANDS) {
            due("clear hand " + hand, x.clear(hand), UNKNOWN);
        }
        due("many(0)", x.many(0), 3);
        due("clear(0)", x.clear(0), 3);
        due("many(0)", x.many(0), 0);
        due("many(1)", x.many(1), 1);
        due("many(2)", x.many(2), 1);
        due("many(3)", x.many(3), 1);
        due("untie(0)", x.untie(0), 0);
        due("clear(0)", x.clear(0), 0);
        x.put(0, 1, 26);
        due("mark behind it", x.note(0, 0, 2), NONE);
        x.tie(0, 0, 1, 1);
        x.tie(1, 0, 1, 1);
        x.put(0, 1, NONE);
        due("clear without notes", x.clear(0), 0);
        due("its tie is no more", x.untie(0), 0);
        due("the other hand's stays", x.untie(1), 1);
        end();
    }

    private static void note() {
        KeyFingers x = new KeyFingers();
        x.put(1, 29, 25);
        x.put(1, 3, 24);
        x.put(0, 7, 59);
        x.mark(1, 29, 2);
        int[][] due = {{3, 24, NONE, 0}, {29, 25, 2, 1}};
        for (int k = 0; k < 2; k++) {
            for (int what = 0; what < 4; what++) {
                due("note(1, " + k + ", " + what + ")", x.note(1, k, what), due[k][what]);
            }
            for (int what : new int[] {-1, 4, NONE, LOW, HIGH}) {
                due("note what " + what, x.note(1, k, what), OUTSIDE);
            }
        }
        for (int hand : WRONG_HANDS) {
            due("note hand " + hand, x.note(hand, 0, 4), UNKNOWN);
        }
        for (int k : new int[] {-1, 2, 30, NONE, LOW, HIGH}) {
            due("note k " + k, x.note(1, k, 4), UNKNOWN);
        }
        x.put(1, 3, NONE);
        due("numbered anew", x.note(1, 0, 0), 29);
        due("numbered anew", x.note(1, 1, 0), UNKNOWN);
        boolean[] black = {false, true, false, true, false, false, true, false, true, false, true, false};
        for (int key = 0; key < 60; key++) {
            x.put(0, 7, key);
            due("black " + key, x.note(0, 0, 3), black[key % 12] ? 1 : 0);
        }
        end();
    }

    private static void costs() {
        KeyFingers x = new KeyFingers();
        for (int key = 0; key < 60; key++) {
            int left = key % 12;
            boolean black = left == 1 || left == 3 || left == 6 || left == 8 || left == 10;
            int[] due = {black ? 3 : 0, 0, 0, 1, black ? 1 : 0};
            for (int f = 1; f <= 5; f++) {
                due("costs(" + key + ", " + f + ")", x.costs(key, f), due[f - 1]);
            }
        }
        for (int f : WRONG_FINGERS) {
            due("costs f " + f, x.costs(60, f), UNKNOWN);
        }
        for (int key : WRONG_KEYS) {
            due("costs key " + key, x.costs(key, 1), OUTSIDE);
        }
        end();
    }

    private static void step() {
        KeyFingers x = new KeyFingers();
        for (int[] r : REACHES) {
            // Behind an object's 512th call its answers are free.
            x = new KeyFingers();
            for (int apart = 1; apart <= 30; apart++) {
                int due = apart < r[2] || apart > r[4] ? NONE : Math.max(0, apart - r[3]);
                due("right up " + apart, x.step(0, 20, r[0], 20 + apart, r[1]), due);
                due("right down " + apart, x.step(0, 20 + apart, r[1], 20, r[0]), due);
                due("left down " + apart, x.step(1, 20 + apart, r[0], 20, r[1]), due);
                due("left up " + apart, x.step(1, 20, r[1], 20 + apart, r[0]), due);
                int under = r[0] == 1 && r[1] != 5 && apart <= 5 ? 2 + apart : NONE;
                due("right up under " + apart, x.step(0, 20, r[1], 20 + apart, r[0]), under);
                due("right down under " + apart, x.step(0, 20 + apart, r[0], 20, r[1]), under);
                due("left down under " + apart, x.step(1, 20 + apart, r[1], 20, r[0]), under);
                due("left up under " + apart, x.step(1, 20, r[0], 20 + apart, r[1]), under);
            }
        }
        for (int hand = 0; hand < 2; hand++) {
            due("again", x.step(hand, 24, 3, 24, 3), 1);
            due("no step", x.step(hand, 24, 5, 24, 2), 0);
            due("slide down", x.step(hand, 25, 2, 24, 2), 3);
            due("slide up", x.step(hand, 25, 2, 26, 2), 3);
            due("white to black", x.step(hand, 24, 2, 25, 2), 8);
            due("white to white", x.step(hand, 28, 2, 29, 2), 8);
            due("black to black", x.step(hand, 25, 3, 27, 3), 8);
            due("black to white, 3 apart", x.step(hand, 25, 3, 28, 3), 8);
            due("jump", x.step(hand, 0, 1, 59, 1), 8);
        }
        for (int hand : WRONG_HANDS) {
            due("step hand " + hand, x.step(hand, 60, 1, 24, 1), UNKNOWN);
        }
        for (int f : WRONG_FINGERS) {
            due("step f " + f, x.step(0, 60, f, 24, 1), UNKNOWN);
            due("step g " + f, x.step(0, 60, 1, 24, f), UNKNOWN);
        }
        for (int key : WRONG_KEYS) {
            due("step a " + key, x.step(0, key, 1, 24, 1), OUTSIDE);
            due("step b " + key, x.step(0, 24, 1, key, 1), OUTSIDE);
        }
        end();
    }

    private static void best() {
        due("one white note", playing(0, 24).best(0), 0);
        KeyFingers x = playing(0, 25);
        int[] one = {3, 0, 0, 1, 1};
        for (int f = 1; f <= 5; f++) {
            x.mark(0, 0, f);
            due("one black note with " + f, x.best(0), one[f - 1]);
        }
        x = playing(1, 24, 59);
        due("a jump", x.best(1), 8);
        due("of the other hand", x.best(0), 0);
        x.price(3, 20);
        due("a dear jump", x.best(1), 20);
        x.mark(1, 0, 1);
        x.mark(1, 1, 2);
        due("no row", x.best(1), NONE);
        x.put(1, 1, 24);
        due("a row again", x.best(1), 0);
        x = playing(0, 24, 48);
        x.reach(1, 5, 5, 11, 24);
        due("a jump is the least", x.best(0), 8);
        x.price(3, 20);
        due("a reach is the least", x.best(0), 13);
        x = playing(0, 24, 26);
        x.mark(0, 0, 4);
        x.mark(0, 1, 1);
        due("thumb under", x.best(0), 1 + 2 + 2);
        for (int hand : WRONG_HANDS) {
            due("best hand " + hand, x.best(hand), UNKNOWN);
        }
        KeyFingers all = new KeyFingers();
        for (int m = 0; m < 30; m++) {
            all.put(0, m, m % 2 == 0 ? 0 : 59);
        }
        due("jumps all along", all.best(0), 29 * 8);
        end();
    }

    private static void finger() {
        dueFingers(playing(0, 24), 0, 1);
        dueFingers(playing(1, 25), 1, 2);
        dueFingers(playing(0, 24, 24, 24), 0, 1, 2, 1);
        KeyFingers x = playing(0, 24, 59);
        dueFingers(x, 0, 1, 1);
        x.mark(0, 1, 3);
        dueFingers(x, 0, 3, 3);
        x.mark(0, 0, 2);
        dueFingers(x, 0, NONE, NONE);
        x = playing(0, 24, 24, 24);
        x.tie(0, 0, 1, 1);
        dueFingers(x, 0, 1, 1, 2);
        x.tie(0, 1, 2, 1);
        dueFingers(x, 0, 1, 2, 2);
        x.tie(0, 0, 2, 1);
        dueFingers(x, 0, 1, 2, 1);
        x.mark(0, 2, 5);
        dueFingers(x, 0, 5, 1, 5);
        x = playing(0, 24, 24, 24, 24, 24, 24);
        x.tie(0, 0, 3, 2);
        dueFingers(x, 0, 1, 2, 3, 1, 2, 1);
        x = playing(1, 24, 24, 24, 24, 24, 24, 24);
        x.tie(1, 1, 4, 2);
        dueFingers(x, 1, 1, 2, 1, 3, 2, 1, 2);
        x = playing(0, 24, 24, 24, 59);
        x.tie(0, 0, 2, 2);
        dueFingers(x, 0, 1, 1, 1, 1);
        x = playing(0, 24, 24, 24, 24, 24, 59);
        x.tie(0, 0, 3, 3);
        dueFingers(x, 0, 1, 2, 2, 1, 2, 2);
        due("its cost", x.best(0), 9);
        x = playing(0, 24, 24, 59);
        x.tie(0, 0, 1, 1);
        dueFingers(x, 0, 1, 1, 1);
        due("its cost", x.best(0), 9);
        x = playing(0, 24, 24, 24, 59, 59, 59);
        x.tie(0, 1, 2, 1);
        x.mark(0, 5, 5);
        x.price(5, 20);
        dueFingers(x, 0, 1, 2, 2, 2, 1, 5);
        for (int hand : WRONG_HANDS) {
            due("finger hand " + hand, x.finger(hand, 0), UNKNOWN);
        }
        for (int k : new int[] {-1, 6, 30, NONE, LOW, HIGH}) {
            due("finger k " + k, x.finger(0, k), UNKNOWN);
        }
        due("finger of a hand without notes", x.finger(1, 0), UNKNOWN);
        end();
    }

    private static void would() {
        KeyFingers x = playing(0, 24, 24);
        due("would(0, 0, 1)", x.would(0, 0, 1), 0);
        due("would(0, 0, 4)", x.would(0, 0, 4), 1);
        x.mark(0, 0, 4);
        due("its mark is not looked at", x.would(0, 0, 1), 0);
        due("other marks hold", x.would(0, 1, 1), 1);
        due("fourth twice", x.would(0, 1, 4), 3);
        x.tie(0, 0, 1, 1);
        due("tied to a mark", x.would(0, 1, 1), NONE);
        due("tied, its own mark not looked at", x.would(0, 0, 1), 1);
        due("tied, fourth twice", x.would(0, 1, 4), 3);
        due("the mark is still there", x.note(0, 0, 2), 4);
        due("best", x.best(0), 3);
        KeyFingers y = playing(1, 24, 59);
        for (int f = 1; f <= 5; f++) {
            due("would jump with " + f, y.would(1, 1, f), f == 4 ? 10 : 8);
        }
        y.mark(1, 0, 1);
        due("would with a mark far off", y.would(1, 1, 2), NONE);
        y.mark(1, 1, 2);
        due("a row, where there is none", y.would(1, 1, 1), 8);
        for (int hand : WRONG_HANDS) {
            due("would hand " + hand, x.would(hand, 0, 1), UNKNOWN);
        }
        for (int k : new int[] {-1, 2, NONE, LOW, HIGH}) {
            due("would k " + k, x.would(0, k, 1), UNKNOWN);
        }
        for (int f : WRONG_FINGERS) {
            due("would f " + f, x.would(0, 0, f), UNKNOWN);
        }
        end();
    }

    private static void tie() {
        KeyFingers x = playing(0, 24, 24, 24, 24);
        due("tie 0 1 1", x.tie(0, 0, 1, 1), 1);
        due("tie 0 2 2", x.tie(0, 0, 2, 2), 1);
        due("tie 2 3 1", x.tie(0, 2, 3, 1), 1);
        due("tie 0 3 2", x.tie(0, 0, 3, 2), 0);
        due("tie 1 3 2", x.tie(0, 1, 3, 2), 0);
        due("tie 28 29 1", x.tie(0, 28, 29, 1), 0);
        due("tie 0 15 15", x.tie(0, 0, 15, 15), 0);
        due("tie 0 29 15", x.tie(0, 0, 29, 15), 0);
        due("tie 0 1 1", x.tie(0, 0, 1, 1), 1);
        int[][] outside = {
            {-1, 1, 1}, {29, 29, 1}, {LOW, 1, 1}, {HIGH, 1, 1}, {0, 0, 1}, {0, 30, 1}, {0, LOW, 1}, {0, HIGH, 1},
            {0, 1, 0}, {0, 1, -1}, {0, 20, 16}, {0, 1, LOW}, {0, 1, HIGH}, {0, 1, 2}, {5, 5, 1}, {5, 4, 1},
            {HIGH, HIGH, HIGH}, {28, 29, HIGH}};
        for (int[] o : outside) {
            due("tie " + o[0] + " " + o[1] + " " + o[2], x.tie(0, o[0], o[1], o[2]), OUTSIDE);
        }
        for (int hand : WRONG_HANDS) {
            due("tie hand " + hand, x.tie(hand, -1, 1, 1), UNKNOWN);
        }
        dueFingers(x, 0, 1, 1, 2, 1);
        x.put(0, 3, NONE);
        x.put(0, 2, NONE);
        due("still there", x.many(4), 1);
        x.put(0, 0, NONE);
        due("it does not hold", x.many(4), 0);
        due("it does not hold", x.best(0), 0);
        x.put(0, 9, 24);
        due("it holds again, by numbers", x.many(4), 1);
        dueFingers(x, 0, 1, 1);
        end();
    }

    private static void untie() {
        KeyFingers x = playing(0, 24, 24);
        x.tie(0, 0, 1, 1);
        x.tie(1, 0, 29, 1);
        for (int hand : WRONG_HANDS) {
            due("untie hand " + hand, x.untie(hand), UNKNOWN);
        }
        due("best with it", x.best(0), 1);
        due("untie(0)", x.untie(0), 1);
        due("best without it", x.best(0), 0);
        due("untie(0)", x.untie(0), 0);
        due("one that does not hold", x.untie(1), 1);
        due("untie(1)", x.untie(1), 0);
        end();
    }

    private static void tied() {
        KeyFingers x = playing(1, 24, 24);
        due("without a tie", x.tied(1), 0);
        x.tie(1, 0, 1, 1);
        due("with it", x.tied(1), 1);
        x.price(5, 20);
        due("AGAIN is dear", x.tied(1), 20);
        x.tie(1, 0, 2, 1);
        due("one that does not hold", x.tied(1), 0);
        KeyFingers y = playing(0, 24, 24, 59);
        y.tie(0, 0, 1, 1);
        due("with a jump in both rows", y.tied(0), 1);
        y.mark(0, 0, 1);
        y.mark(0, 1, 2);
        due("a row without it alone", y.tied(0), NONE);
        y.untie(0);
        due("that row has a cost", y.best(0), 8);
        x.tie(1, 0, 1, 1);
        x.mark(1, 0, 1);
        x.mark(1, 1, 2);
        due("no row", x.tied(1), NONE);
        x.untie(1);
        x.put(1, 1, 59);
        x.mark(1, 1, 2);
        due("no row without it", x.tied(1), NONE);
        for (int hand : WRONG_HANDS) {
            due("tied hand " + hand, x.tied(hand), UNKNOWN);
        }
        end();
    }

    private static void stuck() {
        KeyFingers x = playing(0, 24, 25, 59, 58);
        due("there is a row", x.stuck(0), NONE);
        x.mark(0, 1, 1);
        x.mark(0, 2, 2);
        due("at note 2", x.stuck(0), 2);
        x.mark(0, 0, 1);
        due("still at note 2", x.stuck(0), 2);
        x.mark(0, 3, 4);
        x.mark(0, 2, NONE);
        due("thumb first, fourth behind it", x.step(0, 59, 1, 58, 4), 3);
        due("there is a row", x.stuck(0), NONE);
        x.mark(0, 3, 5);
        due("at note 3", x.stuck(0), 3);
        x.mark(0, 3, NONE);
        x.tie(0, 0, 1, 1);
        x.mark(0, 0, 2);
        due("the tie", x.stuck(0), 99);
        x.mark(0, 2, 2);
        due("not the tie alone", x.stuck(0), 2);
        x.tie(0, 0, 9, 1);
        due("a tie that does not hold", x.stuck(0), 2);
        due("without notes", x.stuck(1), NONE);
        for (int hand : WRONG_HANDS) {
            due("stuck hand " + hand, x.stuck(hand), UNKNOWN);
        }
        end();
    }

    private static void phrase() {
        KeyFingers x = new KeyFingers();
        for (int name = 0; name < 6; name++) {
            due("phrase", x.phrase(20 + name, name % 2, 28, 2 + 2 * name), name + 1);
        }
        dueNames(x, 20, 21, 22, 23, 24, 25);
        due("one more", x.phrase(0, 1, 0, 2), 6);
        dueNames(x, 21, 22, 23, 24, 25, 0);
        due("the same name", x.phrase(23, 1, 0, 12), 6);
        dueNames(x, 21, 22, 24, 25, 0, 23);
        due("the eldest's name", x.phrase(21, 1, 0, 12), 6);
        dueNames(x, 22, 24, 25, 0, 23, 21);
        for (int hand : WRONG_HANDS) {
            due("phrase hand " + hand, x.phrase(26, hand, 0, 2), UNKNOWN);
        }
        for (int name : new int[] {-1, 26, NONE, LOW, HIGH}) {
            due("phrase name " + name, x.phrase(name, 0, 0, 2), OUTSIDE);
        }
        for (int i : new int[] {-1, 29, NONE, LOW, HIGH}) {
            due("phrase i " + i, x.phrase(1, 0, i, 2), OUTSIDE);
        }
        for (int n : new int[] {1, 13, 0, -1, NONE, LOW, HIGH}) {
            due("phrase n " + n, x.phrase(22, 0, 0, n), OUTSIDE);
        }
        dueNames(x, 22, 24, 25, 0, 23, 21);
        x = playing(0, 24, 26, 28, 30);
        x.phrase(1, 1, 0, 2);
        due("an echo of the other hand", x.echo(1, 0, 0), NONE);
        due("the same name", x.phrase(1, 0, 0, 2), 1);
        due("is of this hand now", x.echo(1, 0, 0), 2);
        end();
    }

    private static void forget() {
        KeyFingers x = new KeyFingers();
        for (int name : new int[] {5, 0, 25}) {
            x.phrase(name, 0, 0, 2);
        }
        for (int name : new int[] {-1, 26, 1, NONE, LOW, HIGH}) {
            due("forget " + name, x.forget(name), UNKNOWN);
        }
        dueNames(x, 5, 0, 25);
        due("forget(0)", x.forget(0), 2);
        dueNames(x, 5, 25);
        due("forget(0)", x.forget(0), UNKNOWN);
        due("forget(25)", x.forget(25), 1);
        due("forget(5)", x.forget(5), 0);
        dueNames(x);
        due("forget(5)", x.forget(5), UNKNOWN);
        end();
    }

    private static void prune() {
        KeyFingers x = playing(0, 24, 26, 28);
        x.phrase(1, 0, 1, 3);
        x.phrase(2, 1, 0, 2);
        x.phrase(3, 0, 1, 2);
        x.phrase(4, 0, 28, 12);
        x.phrase(5, 0, 0, 3);
        x.phrase(6, 0, 2, 2);
        for (int hand : WRONG_HANDS) {
            due("prune hand " + hand, x.prune(hand), UNKNOWN);
        }
        dueNames(x, 1, 2, 3, 4, 5, 6);
        due("prune(0)", x.prune(0), 3);
        dueNames(x, 2, 3, 5);
        due("prune(0)", x.prune(0), 0);
        due("prune(1)", x.prune(1), 1);
        dueNames(x, 3, 5);
        x.clear(0);
        dueNames(x, 3, 5);
        due("prune(0)", x.prune(0), 2);
        dueNames(x);
        end();
    }

    private static void name() {
        KeyFingers x = new KeyFingers();
        x.phrase(7, 0, 0, 2);
        x.phrase(3, 1, 0, 2);
        dueNames(x, 7, 3);
        for (int k : new int[] {-1, 6, NONE, LOW, HIGH}) {
            due("name k " + k, x.name(k), OUTSIDE);
        }
        end();
    }

    private static void echo() {
        KeyFingers x = playing(0, 24, 26, 25, 27, 29, 24, 26);
        x.phrase(9, 0, 0, 2);
        int[][] due = {{2, 0}, {3, 1}, {5, 2}, {NONE, NONE}};
        for (int k = 0; k < due.length; k++) {
            due("echo(9, " + k + ", 0)", x.echo(9, k, 0), due[k][0]);
            due("echo(9, " + k + ", 1)", x.echo(9, k, 1), due[k][1]);
        }
        due("echo(9, 29, 0)", x.echo(9, 29, 0), NONE);
        x.phrase(8, 0, 0, 3);
        due("no echo of three", x.echo(8, 0, 0), NONE);
        x.phrase(7, 0, 5, 2);
        due("no echo ahead of it", x.echo(7, 0, 0), NONE);
        x.phrase(6, 0, 6, 2);
        due("not all notes are there", x.echo(6, 0, 0), NONE);
        for (int name : new int[] {-1, 26, 1, NONE, LOW, HIGH}) {
            due("echo name " + name, x.echo(name, 30, 2), UNKNOWN);
        }
        for (int k : new int[] {-1, 30, NONE, LOW, HIGH}) {
            due("echo k " + k, x.echo(9, k, 0), OUTSIDE);
        }
        for (int what : new int[] {-1, 2, NONE, LOW, HIGH}) {
            due("echo what " + what, x.echo(9, 0, what), OUTSIDE);
        }
        x.put(0, 2, NONE);
        due("notes numbered anew", x.echo(9, 0, 0), 2);
        due("its likeness", x.echo(9, 0, 1), 1);
        x = playing(0, 24, 26, 28, 24, 26, 28);
        x.phrase(1, 0, 0, 2);
        due("likeness of two notes, not of three", x.echo(1, 0, 1), 2);
        x = playing(0, 27, 25, 24, 25, 24);
        x.phrase(2, 0, 1, 2);
        due("likeness behind note 0", x.echo(2, 0, 1), 2);
        x = playing(0, 25, 24, 25, 24, 25);
        x.phrase(1, 0, 0, 2);
        x.phrase(2, 0, 1, 2);
        x.phrase(3, 0, 0, 3);
        x.put(0, 5, 24);
        x.forget(1);
        due("a phrase of 2 in another place", x.echo(2, 0, 0), 3);
        due("a phrase of 3 in another place", x.echo(3, 0, 0), NONE);
        x.forget(2);
        due("a phrase of 3 in the first place", x.echo(3, 0, 0), NONE);
        KeyFingers all = new KeyFingers();
        for (int m = 0; m < 30; m++) {
            all.put(1, m, 29 - m);
        }
        all.phrase(0, 1, 0, 2);
        for (int k = 0; k < 30; k++) {
            due("echo " + k + " of many", all.echo(0, k, 0), k < 27 ? k + 2 : NONE);
        }
        all.phrase(0, 1, 3, 12);
        for (int k = 0; k < 30; k++) {
            due("echo " + k + " of twelve", all.echo(0, k, 0), k < 4 ? k + 15 : NONE);
        }
        end();
    }

    private static void tieEcho() {
        KeyFingers x = playing(0, 24, 26, 25, 27, 29, 24, 26);
        x.phrase(9, 0, 0, 2);
        x.tie(0, 3, 4, 1);
        for (int name : new int[] {-1, 26, 1, NONE, LOW, HIGH}) {
            due("tieEcho name " + name, x.tieEcho(name, 30), UNKNOWN);
        }
        for (int k : new int[] {-1, 30, NONE, LOW, HIGH}) {
            due("tieEcho k " + k, x.tieEcho(9, k), OUTSIDE);
        }
        due("no such echo", x.tieEcho(9, 3), STATE);
        due("no such echo", x.tieEcho(9, 29), STATE);
        x.mark(0, 3, 2);
        due("the tie from ahead", x.finger(0, 4), 2);
        due("tieEcho(9, 2)", x.tieEcho(9, 2), 1);
        x.mark(0, 3, NONE);
        x.mark(0, 5, 2);
        x.mark(0, 6, 4);
        due("tied to note 5", x.finger(0, 0), 2);
        due("tied to note 6", x.finger(0, 1), 4);
        due("one tie", x.many(4), 1);
        due("it is this hand's", x.untie(1), 0);
        due("it is this hand's", x.untie(0), 1);
        KeyFingers y = playing(1, 24, 26, 24, 26);
        y.phrase(0, 1, 0, 2);
        due("tieEcho of the left hand", y.tieEcho(0, 0), 1);
        due("untie(0)", y.untie(0), 0);
        due("untie(1)", y.untie(1), 1);
        y.put(1, 3, NONE);
        due("no echo any more", y.tieEcho(0, 0), STATE);
        due("no tie", y.untie(1), 0);
        end();
    }

    private static void moment() {
        KeyFingers x = new KeyFingers();
        int[][] both = {{10, 20}, {20, 10}, {5, 5}, {NONE, 3}, {3, NONE}, {0, 59}, {59, 59}};
        for (int m = 0; m < both.length; m++) {
            x.put(0, m, both[m][0]);
            x.put(1, m, both[m][1]);
        }
        x.put(0, 29, 0);
        int[][] due = {{0, 5}, {2, 6}, {3, 4, 29}};
        for (int what = 0; what < 3; what++) {
            for (int k = 0; k < 30; k++) {
                due("moment(" + k + ", " + what + ")", x.moment(k, what), k < due[what].length ? due[what][k] : NONE);
            }
        }
        for (int k = 0; k < 30; k++) {
            due("moment(" + k + ", 3)", x.moment(k, 3), k < 22 ? k + 7 : NONE);
        }
        for (int k : new int[] {-1, 30, NONE, LOW, HIGH}) {
            due("moment k " + k, x.moment(k, 0), OUTSIDE);
        }
        for (int what : new int[] {-1, 4, NONE, LOW, HIGH}) {
            due("moment what " + what, x.moment(0, what), OUTSIDE);
        }
        end();
    }

    private static void sum() {
        KeyFingers x = playing(0, 0, 59);
        due("one hand", x.sum(), 8);
        x.put(1, 4, 0);
        x.put(1, 5, 59);
        x.put(1, 6, 0);
        due("both hands", x.sum(), 24);
        x.tie(1, 0, 1, 1);
        due("a tie that costs nothing", x.sum(), 24);
        x.put(0, 1, 0);
        due("no jump", x.sum(), 16);
        x.tie(0, 0, 1, 1);
        due("a tie that costs", x.sum(), 17);
        x.mark(1, 4, 1);
        x.mark(1, 5, 2);
        due("the left one has none", x.sum(), NONE);
        x.clear(1);
        due("the left one rests", x.sum(), 1);
        x.mark(0, 0, 1);
        x.mark(0, 1, 2);
        due("the right one has none", x.sum(), NONE);
        end();
    }

    private static void swap() {
        KeyFingers x = playing(0, 0, 59);
        x.put(1, 0, 59);
        x.mark(0, 0, 1);
        x.mark(1, 0, 2);
        x.mark(0, 1, 3);
        due("no row", x.sum(), NONE);
        due("swap(0)", x.swap(0), 0);
        due("right key", x.note(0, 0, 1), 59);
        due("left key", x.note(1, 0, 1), 0);
        due("marks there are no more", x.many(2), 1);
        due("the other mark stays", x.note(0, 1, 2), 3);
        due("swap(1)", x.swap(1), 8);
        due("a rest goes to the right", x.many(0), 1);
        due("a key goes to the left", x.note(1, 1, 1), 59);
        due("its mark is no more", x.many(2), 0);
        due("swap of rests", x.swap(29), 8);
        due("nothing came", x.many(0) + x.many(1), 3);
        for (int m : WRONG_MOMENTS) {
            due("swap moment " + m, x.swap(m), UNKNOWN);
        }
        due("nothing changed", x.sum(), 8);
        KeyFingers y = playing(0, 24);
        y.put(1, 0, 24);
        y.mark(0, 0, 2);
        y.mark(1, 0, 4);
        due("swap of a clash", y.swap(0), 1);
        due("right mark stays", y.note(0, 0, 2), 2);
        due("left mark stays", y.note(1, 0, 2), 4);
        KeyFingers z = playing(0, 0, 59);
        z.mark(0, 0, 1);
        z.put(1, 0, 0);
        z.put(1, 1, 0);
        z.mark(1, 1, 1);
        z.mark(1, 0, 2);
        z.mark(0, 1, 2);
        due("SUM is NONE then", z.swap(0), NONE);
        end();
    }

    private static void help() {
        KeyFingers x = playing(0, NONE, NONE, 0, 59);
        due("the first of two that help", x.help(0), 2);
        due("SUM behind it", x.help(1), 0);
        due("nothing changed", x.sum(), 8);
        due("nothing changed", x.many(1), 0);
        x.swap(3);
        due("nothing is less than 0", x.help(0), NONE);
        due("nothing is less than 0", x.help(1), NONE);
        x = playing(0, 0, 59);
        x.mark(0, 0, 1);
        x.mark(0, 1, 2);
        due("SUM is NONE", x.help(0), 0);
        due("SUM is NONE", x.help(1), 0);
        due("marks are as they were", x.note(0, 0, 2), 1);
        due("marks are as they were", x.note(0, 1, 2), 2);
        x = playing(0, 0, 59, 0);
        for (int m = 0; m < 3; m++) {
            x.mark(0, m, 1 + m % 2);
        }
        due("only the one between", x.help(0), 1);
        due("only the one between", x.help(1), 1);
        x.put(0, 3, 59);
        x.mark(0, 3, 2);
        due("no swap is enough", x.help(0), NONE);
        due("no swap is enough", x.help(1), NONE);
        x = playing(0, 0, 59, 30, 30);
        x.put(1, 3, 30);
        x.mark(0, 3, 2);
        x.mark(1, 3, 3);
        x.help(0);
        due("marks of a clash are as they were", x.note(0, 3, 2), 2);
        due("marks of a clash are as they were", x.note(1, 0, 2), 3);
        x.put(1, 0, 31);
        x.mark(1, 0, 4);
        x.help(1);
        due("the left mark is as it was", x.note(1, 0, 2), 4);
        for (int what : new int[] {-1, 2, NONE, LOW, HIGH}) {
            due("help what " + what, x.help(what), OUTSIDE);
        }
        end();
    }

    private static void many() {
        KeyFingers x = playing(0, 10, 20, 5, NONE, 3, 7);
        int[] low = {20, 10, 5, 3, NONE, 7};
        for (int m = 0; m < low.length; m++) {
            x.put(1, m, low[m]);
        }
        x.put(1, 29, 1);
        x.mark(0, 0, 1);
        x.mark(1, 0, 1);
        x.mark(1, 29, 5);
        x.phrase(3, 0, 0, 2);
        x.phrase(4, 1, 0, 2);
        x.tie(0, 0, 1, 1);
        x.tie(1, 0, 5, 1);
        int[] due = {5, 6, 3, 2, 2, 1, 2};
        for (int what = 0; what < 7; what++) {
            due("many(" + what + ")", x.many(what), due[what]);
        }
        x.tie(1, 0, 6, 1);
        due("many(4)", x.many(4), 1);
        x.mark(1, 29, NONE);
        due("many(2)", x.many(2), 2);
        for (int what : new int[] {-1, 7, NONE, LOW, HIGH}) {
            due("many what " + what, x.many(what), OUTSIDE);
        }
        end();
    }

    public static void main(String[] args) {
        promise = 1;
        newObject();
        put();
        mark();
        reach();
        reachOf();
        price();
        clear();
        note();
        costs();
        step();
        best();
        finger();
        would();
        tie();
        untie();
        tied();
        stuck();
        phrase();
        forget();
        prune();
        name();
        echo();
        tieEcho();
        moment();
        sum();
        swap();
        help();
        many();
        System.out.println(passed + " passed, " + failed + " failed");
        if (failed != 0) {
            System.exit(1);
        }
    }
}
