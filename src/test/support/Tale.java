import java.util.ArrayList;
import java.util.List;

/**
 * All that calls tell of an object. Each row of questions is for an object of its own; the last
 * ones change it, to bring out what no other call tells: prices, ties that do not hold, and the
 * notes of phrases that are not there.
 */
final class Tale {
    static final List<List<Call>> QUESTIONS = List.of(hands(), rows(), woulds(), phrases(), hidden(), ends());

    private Tale() {
    }

    private static void ask(List<Call> questions, String name, int... args) {
        questions.add(new Call(name, args));
    }

    private static List<Call> hands() {
        List<Call> all = new ArrayList<>();
        for (int what = 0; what < 7; what++) {
            ask(all, "many", what);
        }
        for (int k = 0; k < 30; k++) {
            for (int what = 0; what < 4; what++) {
                ask(all, "moment", k, what);
                ask(all, "note", 0, k, what);
                ask(all, "note", 1, k, what);
            }
        }
        return all;
    }

    private static List<Call> rows() {
        List<Call> all = new ArrayList<>();
        for (int f = 1; f <= 5; f++) {
            ask(all, "costs", 24, f);
            ask(all, "costs", 25, f);
            for (int g = f + 1; g <= 5; g++) {
                for (int what = 0; what < 3; what++) {
                    ask(all, "reachOf", f, g, what);
                }
                ask(all, "step", 0, 24, f, 27, g);
                ask(all, "step", 1, 24, f, 27, g);
            }
        }
        for (int hand = 0; hand < 2; hand++) {
            ask(all, "best", hand);
            ask(all, "tied", hand);
            ask(all, "stuck", hand);
            for (int k = 0; k < 30; k++) {
                ask(all, "finger", hand, k);
            }
        }
        ask(all, "sum");
        ask(all, "help", 0);
        ask(all, "help", 1);
        for (int k = 0; k < 7; k++) {
            ask(all, "price", k, 0);
        }
        return all;
    }

    private static List<Call> woulds() {
        List<Call> all = new ArrayList<>();
        for (int hand = 0; hand < 2; hand++) {
            for (int k = 0; k < 30; k++) {
                for (int f = 1; f <= 5; f++) {
                    ask(all, "would", hand, k, f);
                }
            }
        }
        return all;
    }

    private static List<Call> phrases() {
        List<Call> all = new ArrayList<>();
        for (int k = 0; k < 6; k++) {
            ask(all, "name", k);
        }
        for (int name = 0; name < 26; name++) {
            for (int k = 0; k < 5; k++) {
                ask(all, "echo", name, k, 0);
                ask(all, "echo", name, k, 1);
            }
        }
        return all;
    }

    /** With keys at all moments each tie and each phrase that can have notes has them. */
    private static List<Call> hidden() {
        List<Call> all = new ArrayList<>();
        for (int m = 0; m < 30; m++) {
            ask(all, "put", 0, m, 24 + m * m % 7);
            ask(all, "put", 1, m, 40 - m * m % 5);
        }
        for (int hand = 0; hand < 2; hand++) {
            ask(all, "best", hand);
            ask(all, "tied", hand);
            for (int k = 0; k < 30; k++) {
                ask(all, "finger", hand, k);
                ask(all, "would", hand, k, 4);
            }
        }
        ask(all, "many", 4);
        for (int name = 0; name < 26; name++) {
            ask(all, "echo", name, 0, 0);
            ask(all, "echo", name, 1, 1);
        }
        return all;
    }

    private static List<Call> ends() {
        List<Call> all = new ArrayList<>();
        for (int hand = 0; hand < 2; hand++) {
            ask(all, "prune", hand);
            ask(all, "many", 3);
            ask(all, "untie", hand);
            ask(all, "best", hand);
            ask(all, "clear", hand);
        }
        return all;
    }
}
