import java.io.ByteArrayOutputStream;
import java.io.PrintStream;
import java.net.URL;
import java.net.URLClassLoader;
import java.nio.file.Files;
import java.nio.file.Path;
import java.util.ArrayList;
import java.util.List;
import java.util.regex.Matcher;
import java.util.regex.Pattern;
import javax.tools.JavaCompiler;
import javax.tools.ToolProvider;

/** The examples of README.md compile, and print what they say that they print. */
public final class ReadmeTest {
    public static void main(String[] args) throws Exception {
        Matcher m = Pattern.compile("(?s)```java\n(.*?)```").matcher(Files.readString(Path.of("README.md")));
        int many = 0;
        while (m.find()) {
            many++;
            List<String> want = toldIn(m.group(1));
            Checks.due("example " + many + " prints something", want.size() > 0, true);
            Checks.same("example " + many, printedBy(m.group(1)), want);
        }
        Checks.due("examples", many, 2);
        namesAllOfTheFace();
        Checks.finish("ReadmeTest");
    }

    private static List<String> toldIn(String code) {
        List<String> told = new ArrayList<>();
        Matcher m = Pattern.compile("// prints ([^:\n]*)").matcher(code);
        while (m.find()) {
            told.add(m.group(1).strip());
        }
        return told;
    }

    private static List<String> printedBy(String code) throws Exception {
        Path room = Files.createTempDirectory("readme");
        Path file = room.resolve("Example.java");
        Files.writeString(file, "public class Example { public static void main(String[] args) {\n" + code + "} }\n");
        JavaCompiler compiler = ToolProvider.getSystemJavaCompiler();
        int failed = compiler.run(null, null, null, "-cp", System.getProperty("java.class.path"), "-d", room.toString(),
            file.toString());
        Checks.due("the example compiles", failed, 0);
        PrintStream before = System.out;
        ByteArrayOutputStream printed = new ByteArrayOutputStream();
        try (URLClassLoader loader = new URLClassLoader(new URL[] {room.toUri().toURL()})) {
            System.setOut(new PrintStream(printed, true));
            loader.loadClass("Example").getMethod("main", String[].class).invoke(null, (Object) new String[0]);
        } finally {
            System.setOut(before);
            try (var files = Files.list(room)) {
                files.forEach(one -> one.toFile().delete());
            }
            Files.delete(room);
        }
        return printed.toString().lines().toList();
    }

    private static void namesAllOfTheFace() throws Exception {
        String readme = Files.readString(Path.of("README.md"));
        String doc = Files.readString(Path.of("../shared/DOC.md"));
        Matcher m = Pattern.compile("## Promise \\d+: ([a-z]+)\n").matcher(doc);
        int many = 0;
        while (m.find()) {
            many++;
            Checks.due("README.md names " + m.group(1), readme.contains("`" + m.group(1) + "`"), true);
        }
        Checks.due("promises with a name", many, 48);
    }
}
