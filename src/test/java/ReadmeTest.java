import java.io.IOException;
import java.lang.reflect.Method;
import java.lang.reflect.Modifier;
import java.net.URL;
import java.net.URLClassLoader;
import java.nio.file.Files;
import java.nio.file.Path;
import java.util.ArrayList;
import java.util.List;
import java.util.Set;
import java.util.TreeSet;
import java.util.regex.Matcher;
import java.util.regex.Pattern;
import javax.tools.JavaCompiler;
import javax.tools.ToolProvider;

/** What README.md shows is so: its example is compiled and run, each answer held against its comment. */
public final class ReadmeTest {
    private static final Due due = new Due("ReadmeTest");
    private static final Pattern CALL = Pattern.compile("^(x\\.\\w+\\(.*\\));\\s+// (-?\\d+)\\b.*$");
    private static final Set<String> FINDINGS =
        Set.of("1 NOTHING", "2 BEYOND", "3 UNLIKE", "4 NOUGHT", "5 SIZE");

    public static void main(String[] args) throws Exception {
        String page = Files.readString(Path.of("README.md"));
        example(page);
        constants(page);
        due.is("findings told", rows(page, "\\| (\\d) \\| ([A-Z]+) \\|").equals(FINDINGS) ? 1 : 0, 1);
        calls(page);
        tests(page);
        due.end();
    }

    /** Called by the compiled example. */
    public static void answered(String call, long got, long want) {
        due.is(call, got, want);
    }

    private static List<String> blocks(String page) {
        List<String> all = new ArrayList<>();
        Matcher m = Pattern.compile("(?s)```java\n(.*?)```").matcher(page);
        while (m.find()) {
            all.add(m.group(1));
        }
        return all;
    }

    private static Set<String> rows(String page, String form) {
        Set<String> all = new TreeSet<>();
        Matcher m = Pattern.compile("(?m)^" + form).matcher(page);
        while (m.find()) {
            all.add(m.groupCount() > 1 ? m.group(1) + " " + m.group(2) : m.group(1));
        }
        return all;
    }

    private static void example(String page) throws Exception {
        StringBuilder members = new StringBuilder();
        StringBuilder statements = new StringBuilder();
        int calls = 0;
        for (String block : blocks(page)) {
            if (block.startsWith("static")) {
                members.append(block);
                continue;
            }
            for (String line : block.split("\n")) {
                Matcher m = CALL.matcher(line);
                if (m.matches()) {
                    calls++;
                    statements.append("ReadmeTest.answered(\"" + m.group(1) + "\", " + m.group(1) + ", " + m.group(2) + "L);\n");
                } else {
                    due.is("a call without an answer: " + line, line.startsWith("x.") ? 1 : 0, 0);
                    statements.append(line).append('\n');
                }
            }
        }
        due.is("the example has calls", calls > 20 ? 1 : 0, 1);
        run("public final class Example {\n" + members + "public static void main(String[] args) {\n" + statements + "}\n}\n");
    }

    private static void run(String source) throws Exception {
        JavaCompiler javac = ToolProvider.getSystemJavaCompiler();
        due.is("there is a compiler", javac == null ? 0 : 1, 1);
        if (javac == null) {
            return;
        }
        Path out = Files.createTempDirectory("readme");
        Path file = Files.writeString(out.resolve("Example.java"), source);
        String path = System.getProperty("java.class.path");
        int code = javac.run(null, null, null, "-cp", path, "-d", out.toString(), file.toString());
        due.is("the example compiles", code, 0);
        if (code == 0) {
            try (URLClassLoader loader = new URLClassLoader(new URL[] {out.toUri().toURL()})) {
                loader.loadClass("Example").getMethod("main", String[].class).invoke(null, (Object) new String[0]);
            }
        }
        clear(out);
    }

    private static void clear(Path dir) throws IOException {
        try (var files = Files.list(dir)) {
            for (Path file : files.toList()) {
                Files.delete(file);
            }
        }
        Files.delete(dir);
    }

    private static void constants(String page) {
        Set<String> real = new TreeSet<>(Set.of("BAD " + ChainedMen.BAD, "FULL " + ChainedMen.FULL,
            "FINDING " + ChainedMen.FINDING, "STATE " + ChainedMen.STATE, "SPENT " + ChainedMen.SPENT,
            "NONE " + ChainedMen.NONE));
        Set<String> shown = rows(page, "\\| `([A-Z]+)` \\| (-\\d+) \\|");
        due.is("constants shown: " + shown, shown.equals(real) ? 1 : 0, 1);
    }

    private static void calls(String page) {
        Set<String> shown = new TreeSet<>();
        Matcher m = Pattern.compile("`(\\w+)\\(([a-z, ]*)\\)`").matcher(page.substring(
            page.indexOf("## What is called"), page.indexOf("Some calls answer")));
        while (m.find()) {
            int many = m.group(2).isEmpty() ? 0 : m.group(2).split(",").length;
            shown.add(m.group(1) + " " + many);
        }
        Set<String> face = new TreeSet<>();
        for (Method call : ChainedMen.class.getDeclaredMethods()) {
            if (Modifier.isPublic(call.getModifiers())) {
                face.add(call.getName() + " " + call.getParameterCount());
            }
        }
        due.is("calls shown: " + shown, shown.equals(face) ? 1 : 0, 1);
    }

    private static void tests(String page) throws IOException {
        Set<String> there = new TreeSet<>();
        try (var files = Files.list(Path.of("src/test/java"))) {
            for (Path file : files.toList()) {
                String name = file.getFileName().toString();
                if (name.endsWith("Test.java")) {
                    there.add(name.substring(0, name.length() - 5));
                }
            }
        }
        Set<String> shown = rows(page, "\\| `(\\w+Test)` \\|");
        due.is("tests shown: " + shown, shown.equals(there) ? 1 : 0, 1);
    }
}
