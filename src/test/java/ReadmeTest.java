import java.io.ByteArrayOutputStream;
import java.io.File;
import java.io.PrintStream;
import java.lang.reflect.Method;
import java.net.URL;
import java.net.URLClassLoader;
import java.nio.charset.StandardCharsets;
import java.nio.file.Files;
import java.nio.file.Path;
import java.util.List;
import javax.tools.ToolProvider;

/** What README.md shows to one who has not seen the class is so. */
public final class ReadmeTest {
    public static void main(String[] args) throws Exception {
        String readme = Files.readString(Path.of("README.md")).replace("\r\n", "\n");
        programPrintsWhatStandsBelow(readme);
        textHasNoFault(readme);
        everyCallIsNamed(readme);
        everyTestIsNamed(readme);
        Check.end("ReadmeTest");
    }

    private static void programPrintsWhatStandsBelow(String readme) throws Exception {
        List<String> due = block(readme, "text").lines().toList();
        List<String> got = printed(block(readme, "java")).lines().toList();
        Check.due("lines that Example prints", got.size(), due.size());
        for (int i = 0; i < Math.min(got.size(), due.size()); i++) {
            Check.due("Example's <" + got.get(i) + "> is <" + due.get(i) + ">", got.get(i).equals(due.get(i)), true);
        }
    }

    /** What stands behind the first fence of that kind, up to its end. */
    private static String block(String readme, String kind) {
        String fence = "\n```" + kind + "\n";
        int from = readme.indexOf(fence);
        int to = readme.indexOf("\n```\n", from + fence.length());
        boolean isThere = from >= 0 && to >= 0;
        Check.due("README.md has a block of " + kind, isThere, true);
        return isThere ? readme.substring(from + fence.length(), to) : "";
    }

    private static String printed(String program) throws Exception {
        Path folder = Files.createTempDirectory("readme");
        Path source = Files.writeString(folder.resolve("Example.java"), program);
        String classes = System.getProperty("java.class.path");
        int failed = ToolProvider.getSystemJavaCompiler()
            .run(null, null, null, "-Xlint:all", "-Werror", "-cp", classes, "-d", folder.toString(), source.toString());
        Check.due("Example compiles", failed, 0);
        String out = failed == 0 ? run(folder) : "";
        for (File file : folder.toFile().listFiles()) {
            file.delete();
        }
        Files.delete(folder);
        return out;
    }

    private static String run(Path folder) throws Exception {
        PrintStream usual = System.out;
        ByteArrayOutputStream kept = new ByteArrayOutputStream();
        try (URLClassLoader loader = new URLClassLoader(new URL[] {folder.toUri().toURL()})) {
            Method main = loader.loadClass("Example").getMethod("main", String[].class);
            System.setOut(new PrintStream(kept, true, StandardCharsets.UTF_8));
            main.invoke(null, (Object) new String[0]);
        } finally {
            System.setOut(usual);
        }
        return kept.toString(StandardCharsets.UTF_8);
    }

    /** The indented lines from the first trait on. */
    private static void textHasNoFault(String readme) {
        int from = readme.indexOf("\n    trait ");
        Check.due("README.md shows a text", from >= 0, true);
        String text = readme.substring(from, readme.indexOf("\n\n", from));
        HostYear x = new HostYear();
        Check.due("read of README.md's text", Check.read(x, 0, text), 0);
        Check.due("its rules", x.count(6), 3);
    }

    private static void everyCallIsNamed(String readme) {
        for (Method m : HostYear.class.getMethods()) {
            if (m.getDeclaringClass() == HostYear.class) {
                Check.due("README.md names " + m.getName(), readme.contains("`" + m.getName() + "("), true);
            }
        }
    }

    private static void everyTestIsNamed(String readme) {
        for (String name : new File("src/test/java").list()) {
            if (name.endsWith("Test.java")) {
                String test = name.substring(0, name.length() - ".java".length());
                Check.due("README.md names " + test, readme.contains("`" + test + "`"), true);
            }
        }
    }
}
