import java.util.Arrays;
import java.util.Random;
import java.util.function.Consumer;

/**
 * All rows of a few notes, tried one by one: any five fingers, any marks, any tie. What notes and
 * steps cost is asked of costs and step, so that this knows nothing of how the class finds rows.
 */
final class AllRows {
    static final int NONE = -9;

    final int hand;
    final int[] keys;
    final int[] marks;
    /** The tie's i, j, n; null: there is none. */
    final int[] tie;
    /** The calls that set prices and reaches. */
    final Scene rules;

    private int[][] noteCosts;
    private int[][][] stepCosts;
    private int[] fingers;
    private int[] least;
    private int leastCost;

    private AllRows(Scene rules, int hand, int[] keys, int[] marks, int[] tie) {
        this.rules = rules;
        this.hand = hand;
        this.keys = keys;
        this.marks = marks;
        this.tie = tie;
    }

    /** Some notes of one hand; a seed always brings the same ones. */
    static AllRows some(long seed) {
        Random random = new Random(seed);
        int notes = 1 + random.nextInt(6);
        int[] keys = new int[notes];
        int[] marks = new int[notes];
        int width = 1 + random.nextInt(9);
        for (int k = 0; k < notes; k++) {
            keys[k] = random.nextInt(9) == 0 ? random.nextInt(60) : 24 + random.nextInt(width);
            marks[k] = random.nextInt(4) == 0 ? 1 + random.nextInt(5) : NONE;
        }
        return new AllRows(someRules(random), random.nextInt(2), keys, marks, someTie(random, notes));
    }

    static void forSeeds(long first, long last, Consumer<AllRows> body) {
        for (long seed = first; seed <= last; seed++) {
            body.accept(some(seed));
        }
    }

    /** Notes of both hands at the same few moments, with their marks and ties. */
    static Scene bothHands(long seed) {
        AllRows one = some(2 * seed), two = some(2 * seed + 1);
        Scene s = one.rules.keys(0, one.keys).marks(0, one.marks).keys(1, two.keys).marks(1, two.marks);
        s = one.tie == null ? s : s.with("tie", 0, one.tie[0], one.tie[1], one.tie[2]);
        return two.tie == null ? s : s.with("tie", 1, two.tie[0], two.tie[1], two.tie[2]);
    }

    private static Scene someRules(Random random) {
        Scene rules = Scene.start();
        if (random.nextInt(3) == 0) {
            rules = rules.with("price", random.nextInt(7), random.nextInt(21));
        }
        if (random.nextInt(3) == 0) {
            int f = 1 + random.nextInt(4);
            int least = random.nextInt(4);
            int easy = least + random.nextInt(4);
            rules = rules.with("reach", f, f + 1 + random.nextInt(5 - f), least, easy, easy + random.nextInt(4));
        }
        return rules;
    }

    private static int[] someTie(Random random, int notes) {
        if (notes < 2 || random.nextInt(3) == 0) {
            return null;
        }
        int n = 1 + random.nextInt(notes / 2);
        int i = random.nextInt(notes - 2 * n + 1);
        return new int[] {i, i + n + random.nextInt(notes - 2 * n - i + 1), n};
    }

    /** The calls that bring these notes, marks and tie about. */
    Scene scene() {
        Scene scene = rules.keys(hand, keys).marks(hand, marks);
        return tie == null ? scene : scene.with("tie", hand, tie[0], tie[1], tie[2]);
    }

    AllRows untied() {
        return new AllRows(rules, hand, keys, marks, null);
    }

    /** Note k has finger f, whatever its mark. */
    AllRows having(int k, int f) {
        int[] others = marks.clone();
        others[k] = f;
        return new AllRows(rules, hand, keys, others, tie);
    }

    /** Notes 0 .. k alone, without the tie. */
    AllRows upTo(int k) {
        return new AllRows(rules, hand, Arrays.copyOf(keys, k + 1), Arrays.copyOf(marks, k + 1), null);
    }

    int cost() {
        tryAll();
        return leastCost;
    }

    /** The best row; null: there is none. */
    int[] best() {
        tryAll();
        return least;
    }

    private void tryAll() {
        if (fingers != null) {
            return;
        }
        askCosts();
        fingers = new int[keys.length];
        leastCost = NONE;
        tryFrom(0, 0);
    }

    private void askCosts() {
        int notes = keys.length;
        noteCosts = new int[notes][6];
        stepCosts = new int[notes][6][6];
        KeyFingers x = rules.object();
        for (int k = 0; k < notes; k++) {
            for (int f = 1; f <= 5; f++) {
                noteCosts[k][f] = x.costs(keys[k], f);
                for (int g = 1; k > 0 && g <= 5; g++) {
                    stepCosts[k][f][g] = x.step(hand, keys[k - 1], f, keys[k], g);
                }
            }
        }
    }

    /** Rows come in the order of their fingers, so of several that cost alike the first one stays. */
    private void tryFrom(int k, int cost) {
        if (k == keys.length) {
            if (leastCost == NONE || cost < leastCost) {
                leastCost = cost;
                least = fingers.clone();
            }
            return;
        }
        for (int f = 1; f <= 5; f++) {
            int step = k == 0 ? 0 : stepCosts[k][fingers[k - 1]][f];
            if (step != NONE && may(k, f)) {
                fingers[k] = f;
                tryFrom(k + 1, cost + step + noteCosts[k][f]);
            }
        }
    }

    private boolean may(int k, int f) {
        if (marks[k] != NONE && marks[k] != f) {
            return false;
        }
        boolean second = tie != null && k >= tie[1] && k < tie[1] + tie[2];
        return !second || fingers[tie[0] + k - tie[1]] == f;
    }
}
