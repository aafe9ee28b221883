import java.io.IOException;
import java.lang.reflect.Constructor;
import java.lang.reflect.Field;
import java.lang.reflect.Method;
import java.lang.reflect.Modifier;
import java.nio.file.Files;
import java.nio.file.Path;
import java.util.ArrayList;
import java.util.Arrays;
import java.util.List;
import java.util.Set;
import java.util.TreeSet;
import java.util.regex.Matcher;
import java.util.regex.Pattern;

/** The public face of the class, and those rules of LANGUAGE.md that can be read off its file. */
public final class FaceAndRules {
    private static final String[] METHODS = {
        "put/3", "mark/3", "reach/5", "reachOf/3", "price/2", "clear/1", "note/3", "costs/2", "step/5", "best/1",
        "finger/2", "would/3", "tie/4", "untie/1", "tied/1", "stuck/1", "phrase/4", "forget/1", "prune/1", "name/1",
        "echo/3", "tieEcho/2", "moment/2", "sum/0", "swap/1", "help/1", "many/1"};
    private static final String[] WORDS = {
        "throw", "throws", "try", "catch", "synchronized", "assert", "protected", "package", "Random", "Thread",
        "nanoTime", "currentTimeMillis", "hashCode", "toString", "native", "volatile"};
    private static int passed;
    private static int failed;

    private static void test(String what, List<String> faults) {
        for (String fault : faults) {
            System.out.println(what + ": " + fault);
        }
        if (faults.isEmpty()) {
            passed++;
        } else {
            failed++;
        }
    }

    private static List<String> faceFaults() {
        List<String> faults = new ArrayList<>();
        Set<String> due = new TreeSet<>(Arrays.asList(METHODS));
        Set<String> seen = new TreeSet<>();
        Set<String> names = new TreeSet<>();
        for (String method : METHODS) {
            names.add(method.substring(0, method.indexOf('/')));
        }
        for (Method m : KeyFingers.class.getDeclaredMethods()) {
            boolean open = Modifier.isPublic(m.getModifiers());
            if (open) {
                seen.add(m.getName() + "/" + m.getParameterCount());
                if (m.getReturnType() != int.class || Modifier.isStatic(m.getModifiers())) {
                    faults.add("form of " + m);
                }
            } else if (!Modifier.isPrivate(m.getModifiers()) || names.contains(m.getName())) {
                faults.add("not of the face: " + m);
            }
        }
        if (!seen.equals(due)) {
            faults.add("methods are " + seen + ", due are " + due);
        }
        Set<String> constants = new TreeSet<>();
        for (Field f : KeyFingers.class.getDeclaredFields()) {
            if (Modifier.isPublic(f.getModifiers())) {
                constants.add(f.getName());
            } else if (!Modifier.isPrivate(f.getModifiers())) {
                faults.add("not of the face: " + f);
            }
            if (Modifier.isStatic(f.getModifiers()) && !Modifier.isFinal(f.getModifiers())) {
                faults.add("static and not final: " + f);
            }
        }
        if (!constants.equals(new TreeSet<>(Arrays.asList("UNKNOWN", "OUTSIDE", "STATE", "NONE")))) {
            faults.add("constants are " + constants);
        }
        Constructor<?>[] makers = KeyFingers.class.getDeclaredConstructors();
        if (makers.length != 1 || makers[0].getParameterCount() != 0 || !Modifier.isPublic(makers[0].getModifiers())) {
            faults.add("constructors are " + Arrays.toString(makers));
        }
        if (!Modifier.isFinal(KeyFingers.class.getModifiers())) {
            faults.add("the class is not final");
        }
        return faults;
    }

    private static List<String> insideFaults() {
        List<String> faults = new ArrayList<>();
        Class<?>[] inside = KeyFingers.class.getDeclaredClasses();
        if (inside.length > 12) {
            faults.add(inside.length + " classes");
        }
        for (Class<?> c : inside) {
            if (!Modifier.isStatic(c.getModifiers()) || Modifier.isPublic(c.getModifiers())) {
                faults.add("form of " + c);
            }
            for (Method m : c.getDeclaredMethods()) {
                if (m.getParameterCount() > 7) {
                    faults.add("parameters of " + m);
                }
            }
            if (c.getDeclaredFields().length > 20) {
                faults.add("fields of " + c);
            }
        }
        return faults;
    }

    private static List<String> sourceFaults() throws IOException {
        List<String> faults = new ArrayList<>();
        String source = Files.readString(Path.of("src/main/java/KeyFingers.java"));
        String bare = source.replaceAll("(?s)/\\*.*?\\*/", "").replaceAll("//[^\n]*", "");
        for (String word : WORDS) {
            if (Pattern.compile("\\b" + word + "\\b").matcher(bare).find()) {
                faults.add("the word " + word);
            }
        }
        if (bare.contains("->") || bare.contains("::")) {
            faults.add("a lambda or a method reference");
        }
        Matcher imports = Pattern.compile("import\\s+([\\w.*]+);").matcher(bare);
        while (imports.find()) {
            if (!imports.group(1).equals("java.util.Arrays")) {
                faults.add("import of " + imports.group(1));
            }
        }
        for (char sign : source.toCharArray()) {
            if (sign > 127) {
                faults.add("the sign " + (int) sign);
            }
        }
        return faults;
    }

    public static void main(String[] args) throws IOException {
        test("the face", faceFaults());
        test("classes inside", insideFaults());
        test("the file", sourceFaults());
        System.out.println(passed + " passed, " + failed + " failed");
        if (failed != 0) {
            System.exit(1);
        }
    }
}
