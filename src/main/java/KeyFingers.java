import java.util.Arrays;

/** Fingers on keys: two hands, what their fingers cost, and the best row of fingers of each. */
public final class KeyFingers {
    public static final int UNKNOWN = -1, OUTSIDE = -2, STATE = -3, NONE = -9;

    private static final int KEYS = 60, MOMENTS = 30, FINGERS = 5, OCTAVE = 12;
    private static final int MOST_REACH = 24, MOST_PRICE = 20, MOST_UNDER = 5;
    private static final int REACH_PARTS = 3, PRICES = 7;
    private static final int BLACK_THUMB = 0, BLACK_FIFTH = 1, UNDER = 2, JUMP = 3, SLIDE = 4, AGAIN = 5, FOURTH = 6;
    private static final int CROSSED = 0, CLASH = 1, ONE_HAND = 2, NO_HAND = 3, APART = 4;
    private static final int MOST_PHRASES = 6, PHRASE_NAMES = 26, LEAST_PHRASE = 2, MOST_PHRASE = 12;
    private static final int MOST_TIE = 15, LAST_START = 28;
    private static final int ONLY_THE_TIE = 99;

    // Dearer than any row of 30 notes can be, and so small that sums of some of it stay in an int.
    private static final int FAR = 100000;

    private static final int[] FIRST_PRICES = {3, 1, 2, 8, 3, 1, 1};

    // LEAST, EASY, MOST of the fingers 1 2, 1 3, 1 4, 1 5, 2 3, 2 4, 2 5, 3 4, 3 5, 4 5.
    private static final int[] FIRST_REACHES = {
        1, 5, 8, 2, 7, 10, 3, 9, 12, 5, 11, 14,
        1, 2, 4, 2, 4, 6, 3, 6, 9,
        1, 2, 3, 2, 4, 6,
        1, 2, 4};

    private final Rules rules;
    private final Hand right;
    private final Hand left;
    private final Rows rows;
    private final Phrases phrases;

    public KeyFingers() {
        rules = new Rules();
        right = new Hand(1);
        left = new Hand(-1);
        rows = new Rows(rules);
        phrases = new Phrases();
    }

    // ---- 1 keys

    public int put(int hand, int moment, int key) {
        if (!isHand(hand) || !isMoment(moment)) {
            return UNKNOWN;
        }
        if (key != NONE && !isKey(key)) {
            return OUTSIDE;
        }
        Hand player = playerOf(hand);
        int had = player.keyAt(moment);
        player.give(moment, key);
        return had;
    }

    public int mark(int hand, int moment, int f) {
        if (!isHand(hand) || !isMoment(moment)) {
            return UNKNOWN;
        }
        if (f != NONE && !isFinger(f)) {
            return OUTSIDE;
        }
        Hand player = playerOf(hand);
        if (player.keyAt(moment) == NONE) {
            return STATE;
        }
        int had = player.markAt(moment);
        player.setMark(moment, f);
        return had;
    }

    public int reach(int f, int g, int least, int easy, int most) {
        if (!isFinger(f) || !isFinger(g)) {
            return UNKNOWN;
        }
        if (least < 0 || easy < least || most < easy || most > MOST_REACH) {
            return OUTSIDE;
        }
        if (f >= g) {
            return STATE;
        }
        rules.setReach(f, g, least, easy, most);
        return 1;
    }

    public int reachOf(int f, int g, int what) {
        if (!isFinger(f) || !isFinger(g)) {
            return UNKNOWN;
        }
        if (!isBelow(what, REACH_PARTS)) {
            return OUTSIDE;
        }
        return f < g ? rules.reachPart(f, g, what) : STATE;
    }

    public int price(int k, int v) {
        if (!isBelow(k, PRICES) || v < 0 || v > MOST_PRICE) {
            return OUTSIDE;
        }
        int was = rules.priceOf(k);
        rules.setPrice(k, v);
        return was;
    }

    public int clear(int hand) {
        if (!isHand(hand)) {
            return UNKNOWN;
        }
        Hand player = playerOf(hand);
        int had = player.noteCount();
        player.restAlways();
        return had;
    }

    public int note(int hand, int k, int what) {
        if (!isNote(hand, k)) {
            return UNKNOWN;
        }
        Hand player = playerOf(hand);
        switch (what) {
            case 0:
                return player.momentOf(k);
            case 1:
                return player.keyOf(k);
            case 2:
                return player.markOf(k);
            case 3:
                return isBlack(player.keyOf(k)) ? 1 : 0;
            default:
                return OUTSIDE;
        }
    }

    // ---- 2 rows

    public int costs(int key, int f) {
        if (!isFinger(f)) {
            return UNKNOWN;
        }
        return isKey(key) ? rules.noteCost(key, f) : OUTSIDE;
    }

    public int step(int hand, int a, int f, int b, int g) {
        if (!isHand(hand) || !isFinger(f) || !isFinger(g)) {
            return UNKNOWN;
        }
        if (!isKey(a) || !isKey(b)) {
            return OUTSIDE;
        }
        return rules.stepCost(playerOf(hand).side(), a, f, b, g);
    }

    public int best(int hand) {
        return isHand(hand) ? rows.leastCost(playerOf(hand), NONE, NONE) : UNKNOWN;
    }

    public int finger(int hand, int k) {
        return isNote(hand, k) ? rows.bestFinger(playerOf(hand), k) : UNKNOWN;
    }

    public int would(int hand, int k, int f) {
        if (!isNote(hand, k) || !isFinger(f)) {
            return UNKNOWN;
        }
        return rows.leastCost(playerOf(hand), k, f);
    }

    // ---- 3 ties

    public int tie(int hand, int i, int j, int n) {
        if (!isHand(hand)) {
            return UNKNOWN;
        }
        if (i < 0 || i > LAST_START || j < 1 || j >= MOMENTS || n < 1 || n > MOST_TIE || i + n > j) {
            return OUTSIDE;
        }
        Hand player = playerOf(hand);
        player.setTie(i, j, n);
        return player.tieHolds() ? 1 : 0;
    }

    public int untie(int hand) {
        if (!isHand(hand)) {
            return UNKNOWN;
        }
        Hand player = playerOf(hand);
        int was = player.hasTie() ? 1 : 0;
        player.dropTie();
        return was;
    }

    public int tied(int hand) {
        if (!isHand(hand)) {
            return UNKNOWN;
        }
        int with = rows.leastCost(playerOf(hand), NONE, NONE);
        int without = rows.untiedCost(playerOf(hand));
        return with == NONE || without == NONE ? NONE : with - without;
    }

    public int stuck(int hand) {
        if (!isHand(hand)) {
            return UNKNOWN;
        }
        Hand player = playerOf(hand);
        return rows.leastCost(player, NONE, NONE) == NONE ? rows.firstBlocked(player) : NONE;
    }

    // ---- 4 phrases

    public int phrase(int name, int hand, int i, int n) {
        if (!isHand(hand)) {
            return UNKNOWN;
        }
        if (!isBelow(name, PHRASE_NAMES) || i < 0 || i > LAST_START || n < LEAST_PHRASE || n > MOST_PHRASE) {
            return OUTSIDE;
        }
        phrases.come(name, hand, i, n);
        return phrases.size();
    }

    public int forget(int name) {
        int place = phrases.placeOf(name);
        if (place == NONE) {
            return UNKNOWN;
        }
        phrases.drop(place);
        return phrases.size();
    }

    public int prune(int hand) {
        return isHand(hand) ? phrases.dropLonger(hand, playerOf(hand).noteCount()) : UNKNOWN;
    }

    public int name(int k) {
        return isBelow(k, MOST_PHRASES) ? phrases.nameAt(k) : OUTSIDE;
    }

    public int echo(int name, int k, int what) {
        int place = phrases.placeOf(name);
        if (place == NONE) {
            return UNKNOWN;
        }
        if (!isBelow(k, MOMENTS) || what < 0 || what > 1) {
            return OUTSIDE;
        }
        int start = echoStart(place, k);
        if (start == NONE || what == 0) {
            return start;
        }
        return playerOf(phrases.handAt(place)).likeness(phrases.startAt(place), start, phrases.lengthAt(place));
    }

    public int tieEcho(int name, int k) {
        int place = phrases.placeOf(name);
        if (place == NONE) {
            return UNKNOWN;
        }
        if (!isBelow(k, MOMENTS)) {
            return OUTSIDE;
        }
        int start = echoStart(place, k);
        if (start == NONE) {
            return STATE;
        }
        playerOf(phrases.handAt(place)).setTie(phrases.startAt(place), start, phrases.lengthAt(place));
        return 1;
    }

    // ---- 5 two hands

    public int moment(int k, int what) {
        if (!isBelow(k, MOMENTS) || what < CROSSED || what > NO_HAND) {
            return OUTSIDE;
        }
        int seen = 0;
        for (int m = 0; m < MOMENTS; m++) {
            if (kindOf(m) == what) {
                if (seen == k) {
                    return m;
                }
                seen++;
            }
        }
        return NONE;
    }

    public int sum() {
        int ofRight = rows.leastCost(right, NONE, NONE);
        int ofLeft = rows.leastCost(left, NONE, NONE);
        return ofRight == NONE || ofLeft == NONE ? NONE : ofRight + ofLeft;
    }

    public int swap(int moment) {
        if (!isMoment(moment)) {
            return UNKNOWN;
        }
        exchange(moment);
        return sum();
    }

    public int help(int what) {
        if (what < 0 || what > 1) {
            return OUTSIDE;
        }
        int now = sum();
        int least = now == NONE ? FAR : now;
        int found = NONE;
        for (int m = 0; m < MOMENTS; m++) {
            if (right.keyAt(m) == left.keyAt(m)) {
                // A swap changes nothing there, so its SUM can't be less.
                continue;
            }
            // A swap and its way back drop the marks there, so they are kept aside.
            int markOfRight = right.markAt(m);
            int markOfLeft = left.markAt(m);
            exchange(m);
            int behind = sum();
            exchange(m);
            right.setMark(m, markOfRight);
            left.setMark(m, markOfLeft);
            if (behind != NONE && behind < least) {
                least = behind;
                found = m;
            }
        }
        return found == NONE || what == 0 ? found : least;
    }

    public int many(int what) {
        switch (what) {
            case 0:
                return right.noteCount();
            case 1:
                return left.noteCount();
            case 2:
                return right.markCount() + left.markCount();
            case 3:
                return phrases.size();
            case 4:
                return (right.tieHolds() ? 1 : 0) + (left.tieHolds() ? 1 : 0);
            case 5:
                return countOf(CROSSED);
            case 6:
                return countOf(CLASH);
            default:
                return OUTSIDE;
        }
    }

    // ---- what numbers are

    private static boolean isBelow(int number, int bound) {
        return number >= 0 && number < bound;
    }

    private static boolean isHand(int hand) {
        return hand == 0 || hand == 1;
    }

    private static boolean isMoment(int moment) {
        return moment >= 0 && moment < MOMENTS;
    }

    private static boolean isKey(int key) {
        return key >= 0 && key < KEYS;
    }

    private static boolean isFinger(int f) {
        return f >= 1 && f <= FINGERS;
    }

    private static boolean isBlack(int key) {
        switch (key % OCTAVE) {
            case 1:
            case 3:
            case 6:
            case 8:
            case 10:
                return true;
            default:
                return false;
        }
    }

    private boolean isNote(int hand, int k) {
        return isHand(hand) && k >= 0 && k < playerOf(hand).noteCount();
    }

    private Hand playerOf(int hand) {
        return hand == 0 ? right : left;
    }

    // ---- arrays, whose index is always looked at

    private static int at(int[] row, int place) {
        return place >= 0 && place < row.length ? row[place] : NONE;
    }

    private static void store(int[] row, int place, int value) {
        if (place >= 0 && place < row.length) {
            row[place] = value;
        }
    }

    // ---- both hands

    private int kindOf(int moment) {
        int high = right.keyAt(moment);
        int low = left.keyAt(moment);
        if (high == NONE || low == NONE) {
            return high == low ? NO_HAND : ONE_HAND;
        }
        if (high == low) {
            return CLASH;
        }
        return high < low ? CROSSED : APART;
    }

    private int countOf(int kind) {
        int count = 0;
        for (int m = 0; m < MOMENTS; m++) {
            if (kindOf(m) == kind) {
                count++;
            }
        }
        return count;
    }

    private void exchange(int moment) {
        int ofRight = right.keyAt(moment);
        int ofLeft = left.keyAt(moment);
        right.give(moment, ofLeft);
        left.give(moment, ofRight);
    }

    /** The note at which the k-th echo of the phrase at a place begins, or NONE. */
    private int echoStart(int place, int k) {
        Hand player = playerOf(phrases.handAt(place));
        int i = phrases.startAt(place);
        int n = phrases.lengthAt(place);
        int seen = 0;
        for (int j = i + n; j + n <= player.noteCount(); j++) {
            if (player.isEcho(i, j, n)) {
                if (seen == k) {
                    return j;
                }
                seen++;
            }
        }
        return NONE;
    }

    /** What notes and steps cost. */
    private static final class Rules {
        private final int[] prices = FIRST_PRICES.clone();
        private final int[] reaches = FIRST_REACHES.clone();

        int priceOf(int k) {
            return at(prices, k);
        }

        void setPrice(int k, int v) {
            store(prices, k, v);
        }

        /** Where the reach of fingers f and g begins; f is less than g. */
        private static int reachPlace(int f, int g) {
            int pairsAhead = (f - 1) * (2 * FINGERS - f) / 2;
            return REACH_PARTS * (pairsAhead + g - f - 1);
        }

        int reachPart(int f, int g, int what) {
            return at(reaches, reachPlace(f, g) + what);
        }

        void setReach(int f, int g, int least, int easy, int most) {
            int place = reachPlace(f, g);
            store(reaches, place, least);
            store(reaches, place + 1, easy);
            store(reaches, place + 2, most);
        }

        int noteCost(int key, int f) {
            if (f == 4) {
                return at(prices, FOURTH);
            }
            if (f == 1 && isBlack(key)) {
                return at(prices, BLACK_THUMB);
            }
            return f == 5 && isBlack(key) ? at(prices, BLACK_FIFTH) : 0;
        }

        /** What a step costs, or NONE; side is 1 for the right hand, -1 for the left one. */
        int stepCost(int side, int a, int f, int b, int g) {
            int d = (b - a) * side;
            int apart = Math.abs(d);
            if (d == 0) {
                return f == g ? at(prices, AGAIN) : 0;
            }
            if (f == g) {
                boolean slides = apart == 1 && isBlack(a) && !isBlack(b);
                return at(prices, slides ? SLIDE : JUMP);
            }
            int lesser = Math.min(f, g);
            int greater = Math.max(f, g);
            if ((d > 0) == (f < g)) {
                return reachCost(reachPlace(lesser, greater), apart);
            }
            boolean goesUnder = lesser == 1 && greater != 5 && apart <= MOST_UNDER;
            return goesUnder ? at(prices, UNDER) + apart : NONE;
        }

        private int reachCost(int place, int apart) {
            if (place < 0 || place + 2 >= reaches.length) {
                return NONE;
            }
            if (apart < reaches[place] || apart > reaches[place + 2]) {
                return NONE;
            }
            int easy = reaches[place + 1];
            return apart > easy ? apart - easy : 0;
        }
    }

    /** What one hand has at the moments, and its tie. */
    private static final class Hand {
        private final int side;
        private final int[] keys = new int[MOMENTS];
        private final int[] marks = new int[MOMENTS];
        private final int[] noteMoments = new int[MOMENTS];
        private int notes;
        private int tieFirst;
        private int tieSecond;
        private int tieLength;

        Hand(int side) {
            this.side = side;
            Arrays.fill(keys, NONE);
            Arrays.fill(marks, NONE);
        }

        int side() {
            return side;
        }

        int keyAt(int moment) {
            return at(keys, moment);
        }

        int markAt(int moment) {
            return at(marks, moment);
        }

        void setMark(int moment, int f) {
            store(marks, moment, f);
        }

        /** The hand gets a key or a rest; its mark there stays only if nothing changes. */
        void give(int moment, int key) {
            if (keyAt(moment) != key) {
                store(keys, moment, key);
                store(marks, moment, NONE);
                renumber();
            }
        }

        void restAlways() {
            Arrays.fill(keys, NONE);
            Arrays.fill(marks, NONE);
            notes = 0;
            dropTie();
        }

        private void renumber() {
            notes = 0;
            for (int m = 0; m < MOMENTS; m++) {
                if (at(keys, m) != NONE) {
                    store(noteMoments, notes, m);
                    notes++;
                }
            }
        }

        int noteCount() {
            return notes;
        }

        int momentOf(int k) {
            return at(noteMoments, k);
        }

        int keyOf(int k) {
            return at(keys, at(noteMoments, k));
        }

        int markOf(int k) {
            return at(marks, at(noteMoments, k));
        }

        int markCount() {
            int count = 0;
            for (int m = 0; m < MOMENTS; m++) {
                if (at(marks, m) != NONE) {
                    count++;
                }
            }
            return count;
        }

        void setTie(int i, int j, int n) {
            tieFirst = i;
            tieSecond = j;
            tieLength = n;
        }

        void dropTie() {
            tieLength = 0;
        }

        boolean hasTie() {
            return tieLength > 0;
        }

        boolean tieHolds() {
            return tieLength > 0 && tieSecond + tieLength <= notes;
        }

        int firstTied() {
            return tieFirst;
        }

        int secondTied() {
            return tieSecond;
        }

        int tiedLength() {
            return tieLength;
        }

        /** Whether notes j .. j + n - 1 are notes i .. i + n - 1 moved by one number of keys. */
        boolean isEcho(int i, int j, int n) {
            int moved = keyOf(j) - keyOf(i);
            for (int k = 1; k < n; k++) {
                if (keyOf(j + k) - keyOf(i + k) != moved) {
                    return false;
                }
            }
            return true;
        }

        int likeness(int i, int j, int n) {
            int alike = 0;
            for (int k = 0; k < n; k++) {
                if (isBlack(keyOf(i + k)) == isBlack(keyOf(j + k))) {
                    alike++;
                }
            }
            return alike;
        }
    }

    /**
     * The table over a hand's notes, from the last one to the first; fingers count from 0 here.
     * A tie is folded: what the second phrase costs is added to the first one, and the first
     * finger of both is tried one by one, so that the notes between them know where they lead.
     */
    private static final class Rows {
        private final Rules rules;
        private final int[] noteCosts = new int[MOMENTS * FINGERS];
        private final int[] stepCosts = new int[MOMENTS * FINGERS * FINGERS];
        // For each note and finger: what that note and those behind it cost at least.
        private final int[] table = new int[MOMENTS * FINGERS];
        private final int[] heads = new int[FINGERS];
        private final int[] row = new int[MOMENTS];
        private int notes;
        private int first;
        private int second;
        private int length;

        Rows(Rules rules) {
            this.rules = rules;
        }

        /** What the least row costs in which note forced, if that is one, has finger f; or NONE. */
        int leastCost(Hand hand, int forced, int f) {
            load(hand, forced, f);
            if (!hand.tieHolds()) {
                sweep(notes - 1, 0);
                return answerOfTable();
            }
            sweep(notes - 1, second + length);
            fold();
            for (int s = 0; s < FINGERS; s++) {
                leadTo(s);
                store(heads, s, at(table, first * FINGERS + s));
            }
            for (int s = 0; s < FINGERS; s++) {
                store(table, first * FINGERS + s, at(heads, s));
            }
            sweep(first - 1, 0);
            return answerOfTable();
        }

        int untiedCost(Hand hand) {
            load(hand, NONE, NONE);
            sweep(notes - 1, 0);
            return answerOfTable();
        }

        /** The finger of note k in the best row, or NONE. */
        int bestFinger(Hand hand, int k) {
            if (leastCost(hand, NONE, NONE) == NONE) {
                return NONE;
            }
            if (!hand.tieHolds()) {
                follow(0, notes - 1);
                return at(row, k) + 1;
            }
            follow(0, first);
            leadTo(at(row, first));
            follow(first + 1, second - 1);
            for (int t = 0; t < length; t++) {
                store(row, second + t, at(row, first + t));
            }
            follow(second + length, notes - 1);
            return at(row, k) + 1;
        }

        /** The least k so that notes 0 .. k alone have no row without the tie; 99, if none is. */
        int firstBlocked(Hand hand) {
            load(hand, NONE, NONE);
            int all = notes;
            for (int k = 0; k < all; k++) {
                notes = k + 1;
                sweep(k, 0);
                if (answerOfTable() == NONE) {
                    return k;
                }
            }
            return ONLY_THE_TIE;
        }

        private void load(Hand hand, int forced, int f) {
            notes = hand.noteCount();
            first = hand.firstTied();
            second = hand.secondTied();
            length = hand.tiedLength();
            for (int m = 0; m < notes; m++) {
                loadNote(m, hand.keyOf(m), m == forced ? f : hand.markOf(m));
                if (m + 1 < notes) {
                    loadSteps(m, hand.side(), hand.keyOf(m), hand.keyOf(m + 1));
                }
            }
        }

        private void loadNote(int m, int key, int only) {
            for (int f = 0; f < FINGERS; f++) {
                boolean may = only == NONE || only == f + 1;
                store(noteCosts, m * FINGERS + f, may ? rules.noteCost(key, f + 1) : FAR);
            }
        }

        private void loadSteps(int m, int side, int a, int b) {
            for (int f = 0; f < FINGERS; f++) {
                for (int g = 0; g < FINGERS; g++) {
                    int cost = rules.stepCost(side, a, f + 1, b, g + 1);
                    store(stepCosts, (m * FINGERS + f) * FINGERS + g, cost == NONE ? FAR : cost);
                }
            }
        }

        private void sweep(int from, int to) {
            for (int m = from; m >= to; m--) {
                for (int f = 0; f < FINGERS; f++) {
                    int place = m * FINGERS + f;
                    store(table, place, at(noteCosts, place) + costBehind(m, f));
                }
            }
        }

        /** What all behind note m costs at least, if that has finger f; FAR or more, if it can't be. */
        private int costBehind(int m, int f) {
            if (m + 1 >= notes) {
                return 0;
            }
            int steps = (m * FINGERS + f) * FINGERS;
            int next = (m + 1) * FINGERS;
            if (steps < 0 || steps + FINGERS > stepCosts.length || next < 0 || next + FINGERS > table.length) {
                return FAR;
            }
            int least = FAR;
            for (int g = 0; g < FINGERS; g++) {
                least = Math.min(least, stepCosts[steps + g] + table[next + g]);
            }
            return least;
        }

        /** Adds what the second phrase costs, and all behind it, to the first one. */
        private void fold() {
            for (int t = 0; t < length; t++) {
                addFrom(noteCosts, first + t, second + t, FINGERS);
                if (t + 1 < length) {
                    addFrom(stepCosts, first + t, second + t, FINGERS * FINGERS);
                }
            }
            for (int f = 0; f < FINGERS; f++) {
                int place = (first + length - 1) * FINGERS + f;
                store(noteCosts, place, at(noteCosts, place) + costBehind(second + length - 1, f));
            }
        }

        private static void addFrom(int[] costs, int to, int from, int width) {
            for (int c = 0; c < width; c++) {
                store(costs, to * width + c, at(costs, to * width + c) + at(costs, from * width + c));
            }
        }

        /** Fills the table from the second phrase back to the first one, as both begin with finger s. */
        private void leadTo(int s) {
            for (int f = 0; f < FINGERS; f++) {
                // What the second phrase costs is in the first one already.
                store(table, second * FINGERS + f, f == s ? 0 : FAR);
            }
            sweep(second - 1, first);
        }

        private int answerOfTable() {
            if (notes == 0) {
                return 0;
            }
            int least = FAR;
            for (int f = 0; f < FINGERS; f++) {
                least = Math.min(least, at(table, f));
            }
            return least < FAR ? least : NONE;
        }

        /** Writes the fingers of the notes down the table, of several that cost alike the least. */
        private void follow(int from, int to) {
            for (int m = from; m <= to; m++) {
                int least = FAR;
                int chosen = 0;
                for (int g = 0; g < FINGERS; g++) {
                    int step = m == 0 ? 0 : at(stepCosts, ((m - 1) * FINGERS + at(row, m - 1)) * FINGERS + g);
                    int cost = step + at(table, m * FINGERS + g);
                    if (cost < least) {
                        least = cost;
                        chosen = g;
                    }
                }
                store(row, m, chosen);
            }
        }
    }

    /** The phrases that there are, the eldest first. */
    private static final class Phrases {
        private final int[] names = new int[MOST_PHRASES];
        private final int[] hands = new int[MOST_PHRASES];
        private final int[] starts = new int[MOST_PHRASES];
        private final int[] lengths = new int[MOST_PHRASES];
        private int count;

        int size() {
            return count;
        }

        int nameAt(int place) {
            return place < count ? at(names, place) : NONE;
        }

        int handAt(int place) {
            return at(hands, place);
        }

        int startAt(int place) {
            return at(starts, place);
        }

        int lengthAt(int place) {
            return at(lengths, place);
        }

        int placeOf(int name) {
            for (int p = 0; p < count; p++) {
                if (at(names, p) == name) {
                    return p;
                }
            }
            return NONE;
        }

        void come(int name, int hand, int i, int n) {
            int place = placeOf(name);
            if (place != NONE) {
                drop(place);
            } else if (count == MOST_PHRASES) {
                drop(0);
            }
            store(names, count, name);
            store(hands, count, hand);
            store(starts, count, i);
            store(lengths, count, n);
            count++;
        }

        void drop(int place) {
            for (int p = place; p + 1 < count; p++) {
                store(names, p, at(names, p + 1));
                store(hands, p, at(hands, p + 1));
                store(starts, p, at(starts, p + 1));
                store(lengths, p, at(lengths, p + 1));
            }
            count--;
        }

        /** Drops the phrases of a hand that need more notes than it has: how many. */
        int dropLonger(int hand, int notes) {
            int dropped = 0;
            for (int p = count - 1; p >= 0; p--) {
                if (at(hands, p) == hand && at(starts, p) + at(lengths, p) > notes) {
                    drop(p);
                    dropped++;
                }
            }
            return dropped;
        }
    }
}
