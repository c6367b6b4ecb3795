import java.io.ByteArrayOutputStream;
import java.io.File;
import java.io.PrintStream;
import java.lang.reflect.Method;
import java.lang.reflect.Modifier;
import java.net.URL;
import java.net.URLClassLoader;
import java.nio.charset.StandardCharsets;
import java.nio.file.Files;
import java.nio.file.Path;
import java.util.regex.Matcher;
import java.util.regex.Pattern;
import javax.tools.ToolProvider;

/** README.md is true: its program compiles and prints what is told there, its table has every call, its files are there. */
public final class ReadmeTest {
    private static int wrong = 0;

    private static void check(boolean holds, String what) {
        if (!holds) {
            wrong++;
            System.out.println(what);
        }
    }

    /** What stands between ```kind and the next ```. */
    private static String block(String readme, String kind) {
        Matcher m = Pattern.compile("(?s)\n```" + kind + "\n(.*?)\n```\n").matcher(readme);
        check(m.find(), "README.md has no block of " + kind);
        return m.group(1);
    }

    private static String printedBy(String program) throws Exception {
        Path dir = Files.createTempDirectory("readme");
        Path file = dir.resolve("Wedding.java");
        Path made = dir.resolve("Wedding.class");
        try {
            Files.writeString(file, program);
            int refused = ToolProvider.getSystemJavaCompiler().run(null, null, null,
                "-cp", System.getProperty("java.class.path"), "-d", dir.toString(), file.toString());
            check(refused == 0, "README.md's program does not compile");
            return refused == 0 ? run(dir) : "";
        } finally {
            Files.deleteIfExists(made);
            Files.deleteIfExists(file);
            Files.deleteIfExists(dir);
        }
    }

    private static String run(Path dir) throws Exception {
        PrintStream out = System.out;
        ByteArrayOutputStream printed = new ByteArrayOutputStream();
        try (URLClassLoader loader = new URLClassLoader(new URL[] {dir.toUri().toURL()}, ReadmeTest.class.getClassLoader())) {
            System.setOut(new PrintStream(printed, true, StandardCharsets.UTF_8));
            loader.loadClass("Wedding").getMethod("main", String[].class).invoke(null, (Object) new String[0]);
        } finally {
            System.setOut(out);
        }
        return printed.toString(StandardCharsets.UTF_8).replace(System.lineSeparator(), "\n").trim();
    }

    private static void tableHasEveryCall(String readme) {
        int from = readme.indexOf("### Which call for what");
        int to = readme.indexOf("### What to know");
        check(from >= 0 && to > from, "README.md has no table of calls");
        String table = from >= 0 && to > from ? readme.substring(from, to) : "";
        for (Method m : SnowRises.class.getDeclaredMethods()) {
            if (Modifier.isPublic(m.getModifiers())) {
                check(Pattern.compile("`" + m.getName() + "[`(]").matcher(table).find(), "the table has no " + m.getName());
            }
        }
    }

    private static void tellsEveryTest(String readme) {
        for (String name : new File("src/test/java").list()) {
            if (name.endsWith("Test.java")) {
                check(readme.contains("`" + name.replace(".java", "") + "`"), "README.md does not tell of " + name);
            }
        }
        check(Files.isExecutable(Path.of(".ci/run")), ".ci/run can't be run");
    }

    public static void main(String[] args) throws Exception {
        String readme = "\n" + Files.readString(Path.of("README.md"));
        String got = printedBy(block(readme, "java"));
        String want = block(readme, "text");
        check(got.equals(want), "README.md's program prints\n" + got + "\nand README.md tells\n" + want);
        tableHasEveryCall(readme);
        tellsEveryTest(readme);
        System.out.println(wrong == 0 ? "README.md tells what is so" : wrong + " things that README.md tells are not so");
        if (wrong != 0) {
            System.exit(1);
        }
    }
}
