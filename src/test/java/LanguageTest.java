import java.io.IOException;
import java.lang.reflect.Constructor;
import java.lang.reflect.Field;
import java.lang.reflect.Method;
import java.lang.reflect.Modifier;
import java.nio.file.Files;
import java.nio.file.Path;
import java.util.ArrayList;
import java.util.Arrays;
import java.util.List;
import java.util.Map;
import java.util.Set;
import java.util.TreeMap;
import java.util.TreeSet;
import java.util.regex.Matcher;
import java.util.regex.Pattern;

/** The public face, and the rules of LANGUAGE.md as far as they show in the text of the class. */
public final class LanguageTest {
    private static final Due due = new Due("LanguageTest");
    private static final String[] FACE = {
        "int row(int,int)", "int lay(int,int,int)", "int at(int,int)", "int tear(int)",
        "int copy(int,int,int,int,int)", "int mean(int)", "int text(int,int)", "int put(int,int,int)",
        "int fault(int)", "int yard(int)", "int man(int,int)", "int chain(int,int)", "int mark(int,int)",
        "int tide(int)", "int open(int,int)", "int step(int,int)", "int can(int)", "int undo(int)",
        "int who(int)", "int keep(int)", "int on(int)", "int near(int)", "int path(int,int)", "int reach()",
        "int where(int)", "int meet(int,int)", "int window(int)", "int comes(int,int)", "int fetch(int)",
        "int order(int,int)", "int keys(int)", "int free(int,int)", "int filed(int)", "int judge(int)",
        "int quarrel(int,int)", "int peace(int)", "int easter(int)", "int lots(int,int)", "int asked()",
        "long upper()", "long lower()", "int count(int)", "int finding()", "int findings(int)", "long digest()"};

    public static void main(String[] args) throws IOException {
        face();
        nested();
        text(strip(Files.readString(Path.of("src/main/java/ChainedMen.java"))));
        due.end();
    }

    private static void no(String what, boolean is) {
        due.is(what, is ? 1 : 0, 0);
    }

    private static String signature(Method m) {
        List<String> types = new ArrayList<>();
        for (Class<?> type : m.getParameterTypes()) {
            types.add(type.getName());
        }
        return m.getReturnType().getName() + " " + m.getName() + "(" + String.join(",", types) + ")";
    }

    private static void face() {
        Set<String> publics = new TreeSet<>();
        Set<String> names = new TreeSet<>();
        for (Method m : ChainedMen.class.getDeclaredMethods()) {
            if (Modifier.isPublic(m.getModifiers())) {
                publics.add(signature(m));
                names.add(m.getName());
                no("static " + m, Modifier.isStatic(m.getModifiers()));
            }
        }
        due.is("the face: " + publics, publics.equals(new TreeSet<>(Arrays.asList(FACE))) ? 1 : 0, 1);
        for (Method m : ChainedMen.class.getDeclaredMethods()) {
            boolean shown = Modifier.isPublic(m.getModifiers());
            no(m + " is seen", !shown && !Modifier.isPrivate(m.getModifiers()));
            no(m + " has a public name", !shown && names.contains(m.getName()));
        }
        Set<String> constants = new TreeSet<>();
        for (Field f : ChainedMen.class.getDeclaredFields()) {
            if (Modifier.isPublic(f.getModifiers())) {
                constants.add(f.getName());
            } else {
                no(f + " is seen", !Modifier.isPrivate(f.getModifiers()));
            }
            no(f + " is static and changes", Modifier.isStatic(f.getModifiers()) && !Modifier.isFinal(f.getModifiers()));
        }
        due.is("the constants: " + constants,
            constants.equals(Set.of("BAD", "FULL", "FINDING", "STATE", "SPENT", "NONE")) ? 1 : 0, 1);
        Constructor<?>[] made = ChainedMen.class.getDeclaredConstructors();
        due.is("one constructor", made.length, 1);
        due.is("which takes nothing", made[0].getParameterCount(), 0);
        due.is("and is public", Modifier.isPublic(made[0].getModifiers()) ? 1 : 0, 1);
        due.is("the class is final", Modifier.isFinal(ChainedMen.class.getModifiers()) ? 1 : 0, 1);
    }

    private static int ownFields(Class<?> of) {
        int many = 0;
        for (Field f : of.getDeclaredFields()) {
            many += Modifier.isStatic(f.getModifiers()) ? 0 : 1;
        }
        return many;
    }

    private static void nested() {
        Set<String> names = new TreeSet<>();
        for (String signature : FACE) {
            names.add(signature.substring(signature.indexOf(' ') + 1, signature.indexOf('(')));
        }
        no("too many classes", ChainedMen.class.getDeclaredClasses().length > 11);
        no("too many fields", ownFields(ChainedMen.class) > 20);
        for (Class<?> inside : ChainedMen.class.getDeclaredClasses()) {
            int is = inside.getModifiers();
            no(inside + " is not static", !Modifier.isStatic(is));
            no(inside + " is shown", Modifier.isPublic(is) || Modifier.isProtected(is));
            no(inside + " has too many fields", ownFields(inside) > 20);
            for (Method m : inside.getDeclaredMethods()) {
                no(m + " has a public name", names.contains(m.getName()));
                no(m + " takes too many", m.getParameterCount() > 7);
            }
        }
    }

    /** The text without what stands in comments. */
    private static String strip(String text) {
        return text.replaceAll("(?s)/\\*.*?\\*/", "").replaceAll("//[^\n]*", "");
    }

    private static void text(String code) {
        String[] words = {"throw", "throws", "try", "catch", "finally", "synchronized", "assert", "package",
            "double", "float", "String", "Object", "Random", "System\\.(?!arraycopy)", "instanceof", "volatile",
            "transient", "native", "protected", "\\w+Exact", "var", "yield", "record", "goto", "this\\s*\\("};
        for (String word : words) {
            Matcher m = Pattern.compile("\\b" + word + "(?!\\w)").matcher(code);
            no("'" + word + "' in the text", m.find());
        }
        no("a lambda or a method reference", code.contains("->") || code.contains("::"));
        no("a sign beyond 127", code.chars().anyMatch(c -> c > 127));
        due.is("imports", Arrays.stream(code.split("\n")).filter(l -> l.startsWith("import")).count(), 1);
        due.is("of Arrays", code.contains("import java.util.Arrays;") ? 1 : 0, 1);
        Matcher arrays = Pattern.compile("Arrays\\.(\\w+)").matcher(code);
        while (arrays.find()) {
            no("Arrays." + arrays.group(1), !Set.of("fill", "copyOf", "copyOfRange").contains(arrays.group(1)));
        }
        Matcher news = Pattern.compile("new (\\w+)").matcher(code.substring(code.indexOf("public int row")));
        while (news.find()) {
            no("new " + news.group(1) + " in a call", !news.group(1).equals("int"));
        }
        no("while (a for with a bound is due)", code.contains("while"));
        methods(code);
    }

    /** Methods are some sixty lines at most, and their calls go at most eight deep. */
    private static void methods(String code) {
        Map<String, String> bodies = new TreeMap<>();
        String[] lines = code.split("\n", -1);
        int begun = -1;
        String indent = "";
        for (int n = 0; n < lines.length; n++) {
            Matcher m = Pattern.compile("^( {4}| {8})(?! )[^=;]*\\)\\s*\\{$").matcher(lines[n]);
            if (begun < 0 && m.find()) {
                begun = n;
                indent = m.group(1);
            } else if (begun >= 0 && lines[n].equals(indent + "}")) {
                no("too long: " + lines[begun].trim(), n - begun > 60);
                String name = lines[begun].substring(0, lines[begun].indexOf('(')).replaceAll(".*\\W", "");
                bodies.merge(name, String.join("\n", Arrays.copyOfRange(lines, begun + 1, n)), String::concat);
                begun = -1;
            }
        }
        no("a method without an end", begun >= 0);
        no("calls that go too deep: " + deepest(bodies), deepest(bodies) > 8);
    }

    /** Methods are told apart by name alone, so this is never less than it is. */
    private static int deepest(Map<String, String> bodies) {
        int deepest = 0;
        Map<String, Integer> known = new TreeMap<>();
        for (String name : bodies.keySet()) {
            deepest = Math.max(deepest, depth(name, bodies, known, new TreeSet<>()));
        }
        return deepest;
    }

    private static int depth(String name, Map<String, String> bodies, Map<String, Integer> known, Set<String> open) {
        if (known.containsKey(name)) {
            return known.get(name);
        }
        open.add(name);
        int below = 0;
        Matcher calls = Pattern.compile("\\b(\\w+)\\(").matcher(bodies.get(name));
        while (calls.find()) {
            String called = calls.group(1);
            no("recursion in " + called, open.contains(called) && !(called.equals(name) && name.equals("arrange")));
            if (bodies.containsKey(called) && !open.contains(called)) {
                below = Math.max(below, depth(called, bodies, known, open));
            }
        }
        open.remove(name);
        known.put(name, below + 1);
        return below + 1;
    }
}
