import java.io.IOException;
import java.lang.reflect.InvocationTargetException;
import java.lang.reflect.Method;
import java.net.URL;
import java.net.URLClassLoader;
import java.nio.file.DirectoryStream;
import java.nio.file.Files;
import java.nio.file.Path;
import java.util.ArrayList;
import java.util.List;
import java.util.TreeSet;
import java.util.regex.Matcher;
import java.util.regex.Pattern;
import java.util.spi.ToolProvider;

/** README.md: its examples compile, their answers are those that it tells, and it names the tests that there are. */
public final class ReadmeTest {
    private static final Checks CHECKS = new Checks();
    private static final Pattern BLOCK = Pattern.compile("(?s)```java\n(.*?)```");
    /** An answer with what the example says of it: "int words = land.right(0, 3, 0, 0);   // 3; the first number ..". */
    private static final Pattern TOLD = Pattern.compile("int (\\w+) = (.*);\\s*// (-?\\d+)\\b.*");

    /** What the examples take for granted. */
    private static final String FEED = "    private static void feed(ErrataLand land, String text) {\n"
        + "        for (int at = 0; at < text.length(); at += 20) {\n"
        + "            int[] four = new int[5];\n"
        + "            for (int i = 0; i < 20; i++) {\n"
        + "                four[i / 4] = four[i / 4] << 8 | (at + i < text.length() ? text.charAt(at + i) : ' ');\n"
        + "            }\n"
        + "            land.feed(four[0], four[1], four[2], four[3], four[4]);\n"
        + "        }\n"
        + "    }\n";

    private ReadmeTest() {
    }

    public static void main(String[] args) throws Exception {
        String readme = Files.readString(Path.of("README.md"));
        CHECKS.about("README.md");
        int examples = 0;
        for (Matcher block = BLOCK.matcher(readme); block.find(); examples++) {
            runs(block.group(1));
        }
        CHECKS.due("two examples stand there", examples, 2);
        namesTests(readme);
        CHECKS.end();
    }

    private static void runs(String example) throws Exception {
        List<Integer> due = new ArrayList<>();
        List<String> calls = new ArrayList<>();
        StringBuilder answers = new StringBuilder();
        for (String line : example.split("\n")) {
            Matcher told = TOLD.matcher(line);
            if (told.matches()) {
                calls.add(told.group(2));
                due.add(Integer.parseInt(told.group(3)));
                answers.append(answers.length() == 0 ? "" : ", ").append(told.group(1));
            }
        }
        CHECKS.due("some answers are told", due.size() >= 3, true);
        int[] got = answersOf("public final class Example {\n    public static int[] answers() {\n" + example
            + "        return new int[] {" + answers + "};\n    }\n\n" + FEED + "}\n");
        for (int i = 0; i < due.size(); i++) {
            CHECKS.due(calls.get(i), i < got.length ? got[i] : ErrataLand.NONE, due.get(i));
        }
    }

    private static int[] answersOf(String source) throws IOException, ReflectiveOperationException {
        Path folder = Files.createTempDirectory("readme");
        Path file = folder.resolve("Example.java");
        Path compiled = folder.resolve("Example.class");
        try (URLClassLoader loader = new URLClassLoader(new URL[] {folder.toUri().toURL()})) {
            Files.writeString(file, source);
            ToolProvider javac = ToolProvider.findFirst("javac").orElseThrow();
            int code = javac.run(System.out, System.out, "-cp", System.getProperty("java.class.path"), "-d", folder.toString(), file.toString());
            CHECKS.due("javac of the example", code, 0);
            if (code != 0) {
                return new int[0];
            }
            Method answers = loader.loadClass("Example").getMethod("answers");
            return (int[]) answers.invoke(null);
        } catch (InvocationTargetException e) {
            CHECKS.due("the example throws " + e.getCause(), false, true);
            return new int[0];
        } finally {
            Files.deleteIfExists(compiled);
            Files.deleteIfExists(file);
            Files.deleteIfExists(folder);
        }
    }

    private static void namesTests(String readme) throws IOException {
        TreeSet<String> there = new TreeSet<>();
        try (DirectoryStream<Path> files = Files.newDirectoryStream(Path.of("src/test/java"), "*Test.java")) {
            for (Path file : files) {
                there.add(file.getFileName().toString().replace(".java", ""));
            }
        }
        Matcher named = Pattern.compile("`(\\w+Test)`").matcher(readme);
        TreeSet<String> told = new TreeSet<>();
        while (named.find()) {
            told.add(named.group(1));
        }
        CHECKS.due("it names " + told + " where there are " + there, told.equals(there), true);
    }
}
