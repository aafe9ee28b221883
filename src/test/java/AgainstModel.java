import java.util.ArrayList;
import java.util.Arrays;
import java.util.Iterator;
import java.util.LinkedHashMap;
import java.util.List;
import java.util.Map;

/**
 * Runs of calls compared with a second program. That one finds rows in other ways: it tries all
 * fingers of a tied phrase one by one, and walks the notes forward; where the phrase is too long
 * for that, it joins the parts of the row at the phrase's first and last fingers.
 */
public final class AgainstModel {
    private static final int UNKNOWN = -1, OUTSIDE = -2, STATE = -3, NONE = -9, FAR = 1 << 24;
    private static final int[] ODD = {-1, -2, -3, -8, -9, -10, 0, 1, 5, 6, 30, 60, Integer.MIN_VALUE, Integer.MAX_VALUE};
    private static long seed;

    private static int next(int bound) {
        seed = seed * 6364136223846793005L + 1442695040888963407L;
        return (int) ((seed >>> 33) % bound);
    }

    /** The second program; it keeps to the words of the document. */
    private static final class Model {
        final Integer[][] key = new Integer[2][30];
        final Integer[][] mark = new Integer[2][30];
        final int[][] tie = new int[2][];
        final int[][][] reach = new int[6][6][];
        final int[] price = {3, 1, 2, 8, 3, 1, 1};
        final Map<Integer, int[]> phrases = new LinkedHashMap<>();
        long most = 20000;

        Model() {
            int[][] r = {{1, 2, 1, 5, 8}, {1, 3, 2, 7, 10}, {1, 4, 3, 9, 12}, {1, 5, 5, 11, 14}, {2, 3, 1, 2, 4},
                {2, 4, 2, 4, 6}, {2, 5, 3, 6, 9}, {3, 4, 1, 2, 3}, {3, 5, 2, 4, 6}, {4, 5, 1, 2, 4}};
            for (int[] one : r) {
                reach[one[0]][one[1]] = Arrays.copyOfRange(one, 2, 5);
            }
        }

        static boolean in(int v, int low, int high) {
            return low <= v && v <= high;
        }

        static boolean black(int k) {
            return Arrays.asList(1, 3, 6, 8, 10).contains(k % 12);
        }

        List<Integer> moments(int hand) {
            List<Integer> all = new ArrayList<>();
            for (int m = 0; m < 30; m++) {
                if (key[hand][m] != null) {
                    all.add(m);
                }
            }
            return all;
        }

        boolean holds(int hand) {
            return tie[hand] != null && tie[hand][1] + tie[hand][2] <= moments(hand).size();
        }

        int noteCost(int k, int f) {
            int cost = 0;
            if (f == 1 && black(k)) {
                cost += price[0];
            }
            if (f == 5 && black(k)) {
                cost += price[1];
            }
            if (f == 4) {
                cost += price[6];
            }
            return cost;
        }

        int stepCost(int hand, int a, int f, int b, int g) {
            int d = hand == 0 ? b - a : a - b;
            int big = d < 0 ? -d : d;
            if (d == 0) {
                return f == g ? price[5] : 0;
            }
            if (f == g) {
                return black(a) && !black(b) && big == 1 ? price[4] : price[3];
            }
            if (d > 0 && f < g || d < 0 && f > g) {
                int[] r = f < g ? reach[f][g] : reach[g][f];
                return big < r[0] || big > r[2] ? NONE : big <= r[1] ? 0 : big - r[1];
            }
            if ((f == 1 && g != 5 || g == 1 && f != 5) && big <= 5) {
                return price[2] + big;
            }
            return NONE;
        }

        /** The best row without a tie, each note having but the fingers told (0: any); null: none. */
        int[] walk(int hand, List<Integer> keys, int[] only) {
            int n = keys.size();
            int[][] row = new int[6][];
            for (int m = 0; m < n; m++) {
                int[][] longer = new int[6][];
                for (int g = 1; g <= 5; g++) {
                    if (only[m] != 0 && only[m] != g) {
                        continue;
                    }
                    for (int f = 1; f <= 5; f++) {
                        if (m == 0 && f > 1 || m > 0 && row[f] == null) {
                            continue;
                        }
                        int step = m == 0 ? 0 : stepCost(hand, keys.get(m - 1), f, keys.get(m), g);
                        if (step == NONE) {
                            continue;
                        }
                        int[] one = m == 0 ? new int[n + 1] : row[f].clone();
                        one[n] += step + noteCost(keys.get(m), g);
                        one[m] = g;
                        longer[g] = better(longer[g], one, n);
                    }
                }
                row = longer;
            }
            int[] best = n == 0 ? new int[1] : null;
            for (int f = 1; f <= 5; f++) {
                best = better(best, row[f], n);
            }
            return best;
        }

        static int[] better(int[] a, int[] b, int n) {
            if (a == null || b == null) {
                return a == null ? b : a;
            }
            if (a[n] != b[n]) {
                return a[n] < b[n] ? a : b;
            }
            return Arrays.compare(a, 0, n, b, 0, n) <= 0 ? a : b;
        }

        int[] marksOf(int hand) {
            List<Integer> at = moments(hand);
            int[] only = new int[at.size()];
            for (int k = 0; k < only.length; k++) {
                only[k] = mark[hand][at.get(k)] == null ? 0 : mark[hand][at.get(k)];
            }
            return only;
        }

        List<Integer> keysOf(int hand) {
            List<Integer> keys = new ArrayList<>();
            for (int m : moments(hand)) {
                keys.add(key[hand][m]);
            }
            return keys;
        }

        /** Whether the fingers of the tied phrase can be tried one by one. */
        boolean fits(int hand, int[] only, boolean tied) {
            long ways = 1;
            for (int k = 0; tied && holds(hand) && k < tie[hand][2]; k++) {
                if (only[tie[hand][0] + k] == 0 && only[tie[hand][1] + k] == 0) {
                    ways *= 5;
                }
            }
            return ways * only.length <= most;
        }

        int[] bestRow(int hand, int[] only, boolean tied) {
            if (!tied || !holds(hand)) {
                return walk(hand, keysOf(hand), only);
            }
            if (!fits(hand, only, true)) {
                return rowByEnds(hand, only.clone());
            }
            int[] row = tryPhrase(hand, only.clone(), 0, null);
            if (costByEnds(hand, only) != costOf(row)) {
                throw new IllegalStateException("the model does not agree with itself");
            }
            return row;
        }

        int least(int hand, int[] only, boolean tied) {
            boolean byEnds = tied && holds(hand) && !fits(hand, only, true);
            return byEnds ? costByEnds(hand, only) : costOf(bestRow(hand, only, tied));
        }

        /** For each finger of note a and of note b: what the steps and notes from a to b cost, without a. */
        int[][] between(int hand, List<Integer> keys, int[] only, int a, int b) {
            int[][] all = new int[6][6];
            for (int f = 1; f <= 5; f++) {
                Arrays.fill(all[f], FAR);
                all[f][f] = 0;
            }
            for (int m = a; m < b; m++) {
                all = joined(all, oneStep(hand, keys, only, m));
            }
            return all;
        }

        int[][] oneStep(int hand, List<Integer> keys, int[] only, int m) {
            int[][] one = new int[6][6];
            for (int f = 1; f <= 5; f++) {
                for (int g = 1; g <= 5; g++) {
                    int step = stepCost(hand, keys.get(m), f, keys.get(m + 1), g);
                    one[f][g] = step == NONE ? FAR : step + markedCost(keys, only, m + 1, g);
                }
            }
            return one;
        }

        int markedCost(List<Integer> keys, int[] only, int m, int f) {
            return only[m] == 0 || only[m] == f ? noteCost(keys.get(m), f) : FAR;
        }

        static int[][] joined(int[][] a, int[][] b) {
            int[][] both = new int[6][6];
            for (int f = 1; f <= 5; f++) {
                for (int g = 1; g <= 5; g++) {
                    both[f][g] = FAR;
                    for (int h = 1; h <= 5; h++) {
                        both[f][g] = Math.min(both[f][g], a[f][h] + b[h][g]);
                    }
                }
            }
            return both;
        }

        /** The tied phrases begin with one finger and end with one: all parts of the row meet there. */
        int costByEnds(int hand, int[] only) {
            List<Integer> keys = keysOf(hand);
            int i = tie[hand][0], j = tie[hand][1], n = tie[hand][2];
            int[][] phrase = between(hand, keys, only, i, i);
            for (int t = 0; t + 1 < n; t++) {
                int[][] first = oneStep(hand, keys, only, i + t), second = oneStep(hand, keys, only, j + t);
                for (int f = 1; f <= 5; f++) {
                    for (int g = 1; g <= 5; g++) {
                        first[f][g] += second[f][g];
                    }
                }
                phrase = joined(phrase, first);
            }
            int[][] ahead = between(hand, keys, only, 0, i);
            int[][] middle = between(hand, keys, only, i + n - 1, j);
            int[][] behind = between(hand, keys, only, j + n - 1, keys.size() - 1);
            int least = FAR;
            for (int f = 1; f <= 5; f++) {
                int start = markedCost(keys, only, 0, f);
                for (int s = 1; s <= 5; s++) {
                    for (int e = 1; e <= 5; e++) {
                        for (int l = 1; l <= 5; l++) {
                            least = Math.min(least, start + ahead[f][s] + phrase[s][e] + middle[e][s] + behind[e][l]);
                        }
                    }
                }
            }
            return least >= FAR ? NONE : least;
        }

        /** The least finger of each note with which a row can still cost the least. */
        int[] rowByEnds(int hand, int[] only) {
            int best = costByEnds(hand, only);
            if (best == NONE) {
                return null;
            }
            int[] row = new int[only.length + 1];
            row[only.length] = best;
            for (int k = 0; k < only.length; k++) {
                int mark = only[k];
                for (int f = 1; f <= 5 && row[k] == 0; f++) {
                    only[k] = f;
                    if ((mark == 0 || mark == f) && costByEnds(hand, only) == best) {
                        row[k] = f;
                    }
                }
            }
            return row;
        }

        int[] tryPhrase(int hand, int[] only, int k, int[] best) {
            int[] t = tie[hand];
            if (k == t[2]) {
                return better(best, walk(hand, keysOf(hand), only), only.length);
            }
            int a = only[t[0] + k], b = only[t[1] + k];
            for (int f = 1; f <= 5; f++) {
                if ((a == 0 || a == f) && (b == 0 || b == f)) {
                    only[t[0] + k] = f;
                    only[t[1] + k] = f;
                    best = tryPhrase(hand, only, k + 1, best);
                }
            }
            only[t[0] + k] = a;
            only[t[1] + k] = b;
            return best;
        }

        int costOf(int[] row) {
            return row == null ? NONE : row[row.length - 1];
        }

        int sumNow() {
            int r = least(0, marksOf(0), true);
            int l = least(1, marksOf(1), true);
            return r == NONE || l == NONE ? NONE : r + l;
        }

        void exchange(int m) {
            Integer r = key[0][m], l = key[1][m];
            boolean same = r == null ? l == null : r.equals(l);
            if (!same) {
                key[0][m] = l;
                key[1][m] = r;
                mark[0][m] = null;
                mark[1][m] = null;
            }
        }

        List<Integer> echoes(int name) {
            int[] p = phrases.get(name);
            List<Integer> keys = keysOf(p[0]);
            List<Integer> found = new ArrayList<>();
            for (int j = p[1] + p[2]; j + p[2] <= keys.size(); j++) {
                boolean same = true;
                for (int k = 0; k < p[2]; k++) {
                    same &= keys.get(j + k) - keys.get(p[1] + k) == keys.get(j) - keys.get(p[1]);
                }
                if (same) {
                    found.add(j);
                }
            }
            return found;
        }

        List<Integer> kind(int what) {
            List<Integer> found = new ArrayList<>();
            for (int m = 0; m < 30; m++) {
                Integer r = key[0][m], l = key[1][m];
                int have = (r == null ? 0 : 1) + (l == null ? 0 : 1);
                if (what == 0 && have == 2 && r < l || what == 1 && have == 2 && r.equals(l)
                        || what == 2 && have == 1 || what == 3 && have == 0) {
                    found.add(m);
                }
            }
            return found;
        }

        static int or(Integer v) {
            return v == null ? NONE : v;
        }

        int answer(String call, int[] a) {
            switch (call) {
                case "put": {
                    if (!in(a[0], 0, 1) || !in(a[1], 0, 29)) {
                        return UNKNOWN;
                    }
                    if (a[2] != NONE && !in(a[2], 0, 59)) {
                        return OUTSIDE;
                    }
                    int had = or(key[a[0]][a[1]]);
                    if (had != a[2]) {
                        mark[a[0]][a[1]] = null;
                    }
                    key[a[0]][a[1]] = a[2] == NONE ? null : a[2];
                    return had;
                }
                case "mark": {
                    if (!in(a[0], 0, 1) || !in(a[1], 0, 29)) {
                        return UNKNOWN;
                    }
                    if (a[2] != NONE && !in(a[2], 1, 5)) {
                        return OUTSIDE;
                    }
                    if (key[a[0]][a[1]] == null) {
                        return STATE;
                    }
                    int had = or(mark[a[0]][a[1]]);
                    mark[a[0]][a[1]] = a[2] == NONE ? null : a[2];
                    return had;
                }
                case "reach":
                    if (!in(a[0], 1, 5) || !in(a[1], 1, 5)) {
                        return UNKNOWN;
                    }
                    if (!in(a[2], 0, 24) || !in(a[3], 0, 24) || !in(a[4], 0, 24) || a[3] < a[2] || a[4] < a[3]) {
                        return OUTSIDE;
                    }
                    if (a[0] >= a[1]) {
                        return STATE;
                    }
                    reach[a[0]][a[1]] = Arrays.copyOfRange(a, 2, 5);
                    return 1;
                case "reachOf":
                    if (!in(a[0], 1, 5) || !in(a[1], 1, 5)) {
                        return UNKNOWN;
                    }
                    return !in(a[2], 0, 2) ? OUTSIDE : a[0] >= a[1] ? STATE : reach[a[0]][a[1]][a[2]];
                case "price": {
                    if (!in(a[0], 0, 6) || !in(a[1], 0, 20)) {
                        return OUTSIDE;
                    }
                    int was = price[a[0]];
                    price[a[0]] = a[1];
                    return was;
                }
                case "clear": {
                    if (!in(a[0], 0, 1)) {
                        return UNKNOWN;
                    }
                    int had = moments(a[0]).size();
                    Arrays.fill(key[a[0]], null);
                    Arrays.fill(mark[a[0]], null);
                    tie[a[0]] = null;
                    return had;
                }
                case "note": {
                    if (!in(a[0], 0, 1) || !in(a[1], 0, moments(a[0]).size() - 1)) {
                        return UNKNOWN;
                    }
                    int m = moments(a[0]).get(a[1]);
                    int k = key[a[0]][m];
                    return a[2] == 0 ? m : a[2] == 1 ? k : a[2] == 2 ? or(mark[a[0]][m])
                        : a[2] == 3 ? (black(k) ? 1 : 0) : OUTSIDE;
                }
                case "costs":
                    return !in(a[1], 1, 5) ? UNKNOWN : !in(a[0], 0, 59) ? OUTSIDE : noteCost(a[0], a[1]);
                case "step":
                    if (!in(a[0], 0, 1) || !in(a[2], 1, 5) || !in(a[4], 1, 5)) {
                        return UNKNOWN;
                    }
                    return !in(a[1], 0, 59) || !in(a[3], 0, 59) ? OUTSIDE : stepCost(a[0], a[1], a[2], a[3], a[4]);
                default:
                    return answerOfRows(call, a);
            }
        }

        int answerOfRows(String call, int[] a) {
            boolean hand = a.length > 0 && in(a[0], 0, 1);
            switch (call) {
                case "best":
                    if (!hand) {
                        return UNKNOWN;
                    }
                    return least(a[0], marksOf(a[0]), true);
                case "finger": {
                    if (!hand || !in(a[1], 0, moments(a[0]).size() - 1)) {
                        return UNKNOWN;
                    }
                    int[] row = bestRow(a[0], marksOf(a[0]), true);
                    return row == null ? NONE : row[a[1]];
                }
                case "would": {
                    if (!hand || !in(a[1], 0, moments(a[0]).size() - 1) || !in(a[2], 1, 5)) {
                        return UNKNOWN;
                    }
                    int[] only = marksOf(a[0]);
                    only[a[1]] = a[2];
                    return least(a[0], only, true);
                }
                case "tie":
                    if (!hand) {
                        return UNKNOWN;
                    }
                    if (!in(a[1], 0, 28) || !in(a[2], 1, 29) || !in(a[3], 1, 15) || a[1] + a[3] > a[2]) {
                        return OUTSIDE;
                    }
                    tie[a[0]] = Arrays.copyOfRange(a, 1, 4);
                    return holds(a[0]) ? 1 : 0;
                case "untie": {
                    if (!hand) {
                        return UNKNOWN;
                    }
                    int was = tie[a[0]] == null ? 0 : 1;
                    tie[a[0]] = null;
                    return was;
                }
                case "tied": {
                    if (!hand) {
                        return UNKNOWN;
                    }
                    int with = least(a[0], marksOf(a[0]), true);
                    int without = least(a[0], marksOf(a[0]), false);
                    return with == NONE || without == NONE ? NONE : with - without;
                }
                case "stuck": {
                    if (!hand) {
                        return UNKNOWN;
                    }
                    if (least(a[0], marksOf(a[0]), true) != NONE) {
                        return NONE;
                    }
                    List<Integer> keys = keysOf(a[0]);
                    for (int k = 0; k < keys.size(); k++) {
                        if (walk(a[0], keys.subList(0, k + 1), Arrays.copyOf(marksOf(a[0]), k + 1)) == null) {
                            return k;
                        }
                    }
                    return 99;
                }
                default:
                    return answerOfPhrases(call, a);
            }
        }

        int answerOfPhrases(String call, int[] a) {
            switch (call) {
                case "phrase":
                    if (!in(a[1], 0, 1)) {
                        return UNKNOWN;
                    }
                    if (!in(a[0], 0, 25) || !in(a[2], 0, 28) || !in(a[3], 2, 12)) {
                        return OUTSIDE;
                    }
                    phrases.remove(a[0]);
                    phrases.put(a[0], Arrays.copyOfRange(a, 1, 4));
                    if (phrases.size() > 6) {
                        phrases.remove(phrases.keySet().iterator().next());
                    }
                    return phrases.size();
                case "forget":
                    return phrases.remove(a[0]) == null ? UNKNOWN : phrases.size();
                case "prune": {
                    if (!in(a[0], 0, 1)) {
                        return UNKNOWN;
                    }
                    int before = phrases.size();
                    for (Iterator<int[]> it = phrases.values().iterator(); it.hasNext();) {
                        int[] p = it.next();
                        if (p[0] == a[0] && moments(p[0]).size() < p[1] + p[2]) {
                            it.remove();
                        }
                    }
                    return before - phrases.size();
                }
                case "name":
                    if (!in(a[0], 0, 5)) {
                        return OUTSIDE;
                    }
                    return a[0] < phrases.size() ? new ArrayList<>(phrases.keySet()).get(a[0]) : NONE;
                case "echo": {
                    if (!phrases.containsKey(a[0])) {
                        return UNKNOWN;
                    }
                    if (!in(a[1], 0, 29) || !in(a[2], 0, 1)) {
                        return OUTSIDE;
                    }
                    List<Integer> found = echoes(a[0]);
                    if (a[1] >= found.size()) {
                        return NONE;
                    }
                    int j = found.get(a[1]), like = 0;
                    int[] p = phrases.get(a[0]);
                    for (int k = 0; k < p[2]; k++) {
                        like += black(keysOf(p[0]).get(j + k)) == black(keysOf(p[0]).get(p[1] + k)) ? 1 : 0;
                    }
                    return a[2] == 0 ? j : like;
                }
                case "tieEcho": {
                    if (!phrases.containsKey(a[0])) {
                        return UNKNOWN;
                    }
                    if (!in(a[1], 0, 29)) {
                        return OUTSIDE;
                    }
                    List<Integer> found = echoes(a[0]);
                    if (a[1] >= found.size()) {
                        return STATE;
                    }
                    int[] p = phrases.get(a[0]);
                    tie[p[0]] = new int[] {p[1], found.get(a[1]), p[2]};
                    return 1;
                }
                default:
                    return answerOfBoth(call, a);
            }
        }

        int answerOfBoth(String call, int[] a) {
            switch (call) {
                case "moment":
                    if (!in(a[0], 0, 29) || !in(a[1], 0, 3)) {
                        return OUTSIDE;
                    }
                    return a[0] < kind(a[1]).size() ? kind(a[1]).get(a[0]) : NONE;
                case "sum":
                    return sumNow();
                case "swap":
                    if (!in(a[0], 0, 29)) {
                        return UNKNOWN;
                    }
                    exchange(a[0]);
                    return sumNow();
                case "help":
                    return in(a[0], 0, 1) ? helpNow(a[0]) : OUTSIDE;
                case "many":
                    switch (a[0]) {
                        case 0:
                        case 1:
                            return moments(a[0]).size();
                        case 2: {
                            int marks = 0;
                            for (int m = 0; m < 60; m++) {
                                marks += mark[m / 30][m % 30] == null ? 0 : 1;
                            }
                            return marks;
                        }
                        case 3:
                            return phrases.size();
                        case 4:
                            return (holds(0) ? 1 : 0) + (holds(1) ? 1 : 0);
                        case 5:
                            return kind(0).size();
                        case 6:
                            return kind(1).size();
                        default:
                            return OUTSIDE;
                    }
                default:
                    throw new IllegalStateException(call);
            }
        }

        int helpNow(int what) {
            most /= 16;
            int now = NONE, found = NONE, least = Integer.MAX_VALUE;
            for (int m = -1; m < 30; m++) {
                Integer[][] keys = {key[0].clone(), key[1].clone()};
                Integer[][] marks = {mark[0].clone(), mark[1].clone()};
                if (m >= 0) {
                    exchange(m);
                }
                int sum = sumNow();
                for (int hand = 0; hand < 2; hand++) {
                    key[hand] = keys[hand];
                    mark[hand] = marks[hand];
                }
                if (m < 0) {
                    now = sum;
                } else if (sum != NONE && sum < least && (now == NONE || sum < now)) {
                    least = sum;
                    found = m;
                }
            }
            most *= 16;
            return found == NONE || what == 0 ? found : least;
        }
    }

    /** What a run is like: how far its notes go apart, how many there are, how rare changes are. */
    private static final class Manner {
        final int width = 1 + next(12);
        final int center = 12 + next(36);
        final int moments = 2 + next(29);
        final int tieMost = 1 + next(next(4) == 0 ? 15 : 4);
        final int markRate = next(4);

        int aKey() {
            int k = next(12) == 0 ? next(60) : center + next(2 * width + 1) - width;
            return Math.max(0, Math.min(59, k));
        }

        int[] argumentsOf(String call) {
            int hand = next(2), m = next(moments), f = 1 + next(5), g = 1 + next(5);
            switch (call) {
                case "put": return new int[] {hand, m, next(7) == 0 ? NONE : aKey()};
                case "mark": return new int[] {hand, m, next(4) < markRate ? f : NONE};
                case "reach": {
                    int[] three = {next(next(3) == 0 ? 25 : 4), next(13), next(25)};
                    Arrays.sort(three);
                    return new int[] {f, g, three[0], three[1], three[2]};
                }
                case "reachOf": return new int[] {f, g, next(3)};
                case "price": return new int[] {next(7), next(next(2) == 0 ? 21 : 5)};
                case "note": return new int[] {hand, m, next(4)};
                case "costs": return new int[] {aKey(), f};
                case "step": return new int[] {hand, aKey(), f, aKey(), g};
                case "finger": return new int[] {hand, m};
                case "would": return new int[] {hand, m, f};
                case "tie": {
                    int n = 1 + next(tieMost);
                    int i = next(Math.max(1, moments - 2 * n + 1));
                    return new int[] {hand, i, i + n + next(Math.max(1, moments - 2 * n - i + 1)), n};
                }
                case "phrase": return new int[] {next(9), hand, next(moments), 2 + next(next(4) == 0 ? 11 : 2)};
                case "forget": return new int[] {next(9)};
                case "name": return new int[] {next(6)};
                case "echo": return new int[] {next(9), next(5), next(2)};
                case "tieEcho": return new int[] {next(9), next(3)};
                case "moment": return new int[] {next(moments), next(4)};
                case "sum": return new int[0];
                case "swap": return new int[] {m};
                case "help": return new int[] {next(2)};
                case "many": return new int[] {next(7)};
                default: return new int[] {hand};
            }
        }
    }

    private static final String[] OFTEN = {
        "put", "put", "put", "put", "put", "put", "mark", "mark", "mark", "tie", "best", "finger", "finger", "would",
        "tied", "stuck", "phrase", "echo", "echo", "tieEcho", "swap"};
    private static final String[] ALL = {
        "put", "mark", "reach", "reachOf", "price", "clear", "note", "costs", "step", "best", "finger", "would", "tie",
        "untie", "tied", "stuck", "phrase", "forget", "prune", "name", "echo", "tieEcho", "moment", "sum", "swap",
        "help", "many"};

    private static int compared;

    private static boolean same(KeyFingers x, Model y, String call, int[] a, int run) {
        int want = y.answer(call, a);
        int got = new Call(call, a).ask(x);
        compared++;
        if (got != want) {
            System.out.println("run " + run + ": " + call + Arrays.toString(a) + " answered " + got + ", due is " + want);
        }
        return got == want;
    }

    private static boolean sameRun(int run) {
        seed = 1000003L * run + 17;
        KeyFingers x = new KeyFingers();
        Model y = new Model();
        Manner manner = new Manner();
        boolean good = true;
        int start = run % 3 == 0 ? 0 : manner.moments;
        for (int m = 0; m < start; m++) {
            good &= same(x, y, "put", new int[] {0, m, manner.aKey()}, run);
            good &= same(x, y, "put", new int[] {1, m, manner.aKey()}, run);
        }
        for (int c = 2 * start; good && c < 512; c++) {
            String call = next(3) == 0 ? ALL[next(ALL.length)] : OFTEN[next(OFTEN.length)];
            if (call.equals("clear") && next(4) != 0) {
                call = "help";
            }
            int[] a = manner.argumentsOf(call);
            if (a.length > 0 && next(25) == 0) {
                a[next(a.length)] = ODD[next(ODD.length)];
            }
            good = same(x, y, call, a, run);
        }
        return good;
    }

    public static void main(String[] args) {
        int runs = args.length > 0 ? Integer.parseInt(args[0]) : 150;
        int passed = 0, failed = 0;
        for (int run = 0; run < runs; run++) {
            if (sameRun(run)) {
                passed++;
            } else {
                failed++;
            }
        }
        System.out.println(compared + " answers compared");
        System.out.println(passed + " passed, " + failed + " failed");
        if (failed != 0) {
            System.exit(1);
        }
    }
}
