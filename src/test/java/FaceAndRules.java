import java.lang.reflect.Constructor;
import java.lang.reflect.Field;
import java.lang.reflect.Method;
import java.lang.reflect.Modifier;
import java.util.ArrayList;
import java.util.Arrays;
import java.util.List;
import java.util.Map;
import java.util.Set;
import java.util.TreeMap;
import java.util.TreeSet;
import java.util.regex.Matcher;
import java.util.regex.Pattern;

/** The public face of the class, and those rules of LANGUAGE.md that can be read off its file. */
public final class FaceAndRules {
    private static final String[] METHODS = {
        "put/3", "mark/3", "reach/5", "reachOf/3", "price/2", "clear/1", "note/3", "costs/2", "step/5", "best/1",
        "finger/2", "would/3", "tie/4", "untie/1", "tied/1", "stuck/1", "phrase/4", "forget/1", "prune/1", "name/1",
        "echo/3", "tieEcho/2", "moment/2", "sum/0", "swap/1", "help/1", "many/1"};
    private static final Set<String> NAMES = names();
    private static final String[] WORDS = {
        "throw", "throws", "try", "catch", "synchronized", "assert", "protected", "package", "Random", "Thread",
        "nanoTime", "currentTimeMillis", "hashCode", "toString", "native", "volatile"};
    private static final Set<String> LIBRARY = Set.of("Arrays.fill", "Math.abs", "Math.min", "Math.max");
    private static final int MOST_LINES = 60, MOST_DEPTH = 8;
    private static int passed;
    private static int failed;

    private static Set<String> names() {
        Set<String> names = new TreeSet<>();
        for (String method : METHODS) {
            names.add(method.substring(0, method.indexOf('/')));
        }
        return names;
    }

    private static void test(String what, List<String> faults) {
        for (String fault : faults) {
            System.out.println(what + ": " + fault);
        }
        if (faults.isEmpty()) {
            passed++;
        } else {
            failed++;
        }
    }

    private static List<String> faceFaults() {
        List<String> faults = new ArrayList<>();
        Set<String> due = new TreeSet<>(Arrays.asList(METHODS));
        Set<String> seen = new TreeSet<>();
        for (Method m : KeyFingers.class.getDeclaredMethods()) {
            boolean open = Modifier.isPublic(m.getModifiers());
            if (open) {
                seen.add(m.getName() + "/" + m.getParameterCount());
                if (m.getReturnType() != int.class || Modifier.isStatic(m.getModifiers())) {
                    faults.add("form of " + m);
                }
            } else if (!Modifier.isPrivate(m.getModifiers()) || NAMES.contains(m.getName())) {
                faults.add("not of the face: " + m);
            }
        }
        if (!seen.equals(due)) {
            faults.add("methods are " + seen + ", due are " + due);
        }
        Set<String> constants = new TreeSet<>();
        for (Field f : KeyFingers.class.getDeclaredFields()) {
            if (Modifier.isPublic(f.getModifiers())) {
                constants.add(f.getName());
            } else if (!Modifier.isPrivate(f.getModifiers())) {
                faults.add("not of the face: " + f);
            }
            if (Modifier.isStatic(f.getModifiers()) && !Modifier.isFinal(f.getModifiers())) {
                faults.add("static and not final: " + f);
            }
        }
        if (!constants.equals(new TreeSet<>(Arrays.asList("UNKNOWN", "OUTSIDE", "STATE", "NONE")))) {
            faults.add("constants are " + constants);
        }
        Constructor<?>[] makers = KeyFingers.class.getDeclaredConstructors();
        if (makers.length != 1 || makers[0].getParameterCount() != 0 || !Modifier.isPublic(makers[0].getModifiers())) {
            faults.add("constructors are " + Arrays.toString(makers));
        }
        if (!Modifier.isFinal(KeyFingers.class.getModifiers())) {
            faults.add("the class is not final");
        }
        return faults;
    }

    private static List<String> insideFaults() {
        List<String> faults = new ArrayList<>();
        Class<?>[] inside = KeyFingers.class.getDeclaredClasses();
        if (inside.length > 12) {
            faults.add(inside.length + " classes");
        }
        for (Class<?> c : inside) {
            if (!Modifier.isStatic(c.getModifiers()) || Modifier.isPublic(c.getModifiers())) {
                faults.add("form of " + c);
            }
            for (Method m : c.getDeclaredMethods()) {
                if (m.getParameterCount() > 7) {
                    faults.add("parameters of " + m);
                }
                if (Modifier.isPublic(m.getModifiers()) || NAMES.contains(m.getName())) {
                    faults.add("a name or a form of the face: " + m);
                }
            }
            if (c.getDeclaredFields().length > 20) {
                faults.add("fields of " + c);
            }
        }
        return faults;
    }

    private static List<String> sourceFaults() {
        List<String> faults = new ArrayList<>();
        String source = Source.text();
        String bare = Source.withoutComments();
        for (String word : WORDS) {
            if (Pattern.compile("\\b" + word + "\\b").matcher(bare).find()) {
                faults.add("the word " + word);
            }
        }
        if (bare.contains("->") || bare.contains("::")) {
            faults.add("a lambda or a method reference");
        }
        Matcher imports = Pattern.compile("import\\s+([\\w.*]+);").matcher(bare);
        while (imports.find()) {
            if (!imports.group(1).equals("java.util.Arrays")) {
                faults.add("import of " + imports.group(1));
            }
        }
        Matcher library = Pattern.compile("\\b(Arrays|Math|Integer|Long|System|List|String)\\.\\w+").matcher(bare);
        while (library.find()) {
            if (!LIBRARY.contains(library.group())) {
                faults.add("the library's " + library.group());
            }
        }
        for (char sign : source.toCharArray()) {
            if (sign > 127) {
                faults.add("the sign " + (int) sign);
            }
        }
        return faults;
    }

    /** Each method's name with all that stands between its braces; methods of one name together. */
    private static Map<String, String> bodies() {
        Map<String, String> bodies = new TreeMap<>();
        String bare = Source.withoutComments();
        Matcher heads = Pattern.compile("(?m)^ {4,8}[\\w\\[\\] ]+ (\\w+)\\([^()]*\\) \\{$").matcher(bare);
        while (heads.find()) {
            int end = heads.end(), open = 1;
            while (open > 0 && end < bare.length()) {
                open += bare.charAt(end) == '{' ? 1 : bare.charAt(end) == '}' ? -1 : 0;
                end++;
            }
            bodies.merge(heads.group(1), bare.substring(heads.end(), end), (a, b) -> a + b);
        }
        return bodies;
    }

    /** How deep calls go from a method on; one that comes back to itself goes too deep. */
    private static int depthOf(String name, Map<String, String> bodies, int above) {
        int deepest = 0;
        Matcher calls = Pattern.compile("\\b(\\w+)\\(").matcher(bodies.get(name));
        while (above <= MOST_DEPTH && calls.find()) {
            if (bodies.containsKey(calls.group(1))) {
                deepest = Math.max(deepest, depthOf(calls.group(1), bodies, above + 1));
            }
        }
        return 1 + deepest;
    }

    private static List<String> methodFaults() {
        List<String> faults = new ArrayList<>();
        Map<String, String> bodies = bodies();
        if (!bodies.keySet().containsAll(NAMES)) {
            faults.add("read just " + bodies.keySet());
        }
        for (String name : bodies.keySet()) {
            if (bodies.get(name).split("\n", -1).length > MOST_LINES) {
                faults.add("lines of " + name);
            }
            int depth = depthOf(name, bodies, 1);
            if (depth > MOST_DEPTH) {
                faults.add("calls from " + name + " go " + depth + " deep");
            }
        }
        return faults;
    }

    public static void main(String[] args) {
        test("the face", faceFaults());
        test("classes inside", insideFaults());
        test("the file", sourceFaults());
        test("methods", methodFaults());
        System.out.println(passed + " passed, " + failed + " failed");
        if (failed != 0) {
            System.exit(1);
        }
    }
}
