import java.io.PrintWriter;
import java.io.StringWriter;
import java.lang.reflect.Constructor;
import java.lang.reflect.Field;
import java.lang.reflect.Method;
import java.lang.reflect.Modifier;
import java.nio.charset.StandardCharsets;
import java.nio.file.Files;
import java.nio.file.Path;
import java.util.ArrayDeque;
import java.util.Arrays;
import java.util.Deque;
import java.util.HashSet;
import java.util.Map;
import java.util.Optional;
import java.util.Set;
import java.util.TreeMap;
import java.util.TreeSet;
import java.util.regex.Matcher;
import java.util.regex.Pattern;
import java.util.spi.ToolProvider;

/** What of LANGUAGE.md a program can look at: the face, words that must not stand there, sizes, how deep calls go. */
public final class LanguageTest {
    private static final Set<String> LIBRARY = new HashSet<>(Arrays.asList("java/lang/Object.\"<init>\"", "java/lang/Math.max",
        "java/lang/Math.min", "java/lang/Math.abs", "java/lang/Integer.bitCount", "java/lang/Integer.compare",
        "java/lang/Integer.numberOfTrailingZeros", "java/lang/String.length", "java/lang/String.charAt",
        "java/lang/System.arraycopy"));

    private static int wrong;

    public static void main(String[] args) throws Exception {
        String source = Files.readString(Path.of("src/main/java/ErrataLand.java"), StandardCharsets.ISO_8859_1);
        face(Files.readString(Path.of("../shared/DOC.md"), StandardCharsets.UTF_8));
        words(source);
        methodLengths(source);
        classes();
        calls();
        System.out.println(wrong == 0 ? "the language is kept to" : wrong + " places are not in the language");
        if (wrong != 0) {
            System.exit(1);
        }
    }

    private static void must(boolean good, String what) {
        if (!good) {
            wrong++;
            System.out.println(what);
        }
    }

    /** The document's face against what the class shows. */
    private static void face(String document) {
        Set<String> due = new TreeSet<>();
        Matcher told = Pattern.compile("(?m)^    public (?!static)(\\w+) (\\w+)\\((.*)\\);$").matcher(document);
        while (told.find()) {
            due.add(told.group(1) + " " + told.group(2) + "(" + told.group(3).replaceAll(" \\w+(,|$)", "$1") + ")");
        }
        must(due.size() == 57, "the document tells " + due.size() + " methods");
        Set<String> shown = new TreeSet<>();
        for (Method method : ErrataLand.class.getDeclaredMethods()) {
            if (Modifier.isPrivate(method.getModifiers())) {
                continue;
            }
            StringBuilder types = new StringBuilder();
            for (Class<?> type : method.getParameterTypes()) {
                types.append(types.length() == 0 ? "" : ", ").append(type.getName());
            }
            shown.add(method.getReturnType().getName() + " " + method.getName() + "(" + types + ")");
            must(method.getModifiers() == Modifier.PUBLIC, method + " is not just public");
        }
        must(due.equals(shown), "the face is not the document's: " + due + " against " + shown);
        for (Field field : ErrataLand.class.getDeclaredFields()) {
            must(Modifier.isPrivate(field.getModifiers()) || field.getName().equals("NONE"), field + " is seen");
        }
        Constructor<?>[] made = ErrataLand.class.getDeclaredConstructors();
        must(made.length == 1 && made[0].getModifiers() == Modifier.PUBLIC, "the constructor");
        must(Modifier.isFinal(ErrataLand.class.getModifiers()), "the class is not final");
    }

    private static void words(String source) {
        for (int i = 0; i < source.length(); i++) {
            must(source.charAt(i) < 127, "a sign beyond 126 at " + i);
        }
        String code = source.replaceAll("(?s)/\\*.*?\\*/", " ").replaceAll("//[^\n]*", " ").replaceAll("\"[^\"\n]*\"", "\"\"");
        for (String forbidden : ("import package throw throws try catch synchronized assert double float enum record var "
            + "equals hashCode toString volatile transient native strictfp protected extends implements").split(" ")) {
            must(!Pattern.compile("\\b" + forbidden + "\\b").matcher(code).find(), "the source says " + forbidden);
        }
        for (String forbidden : new String[] {"->", "::", "@", "static {", "\"\" +", "+ \"\""}) {
            must(!code.contains(forbidden), "the source says " + forbidden);
        }
        Matcher statics = Pattern.compile("\\bstatic (?!final|int |long |boolean |class )[^\n]*").matcher(code);
        while (statics.find()) {
            must(statics.group().contains("static final class"), "a static that is not final: " + statics.group());
        }
        Matcher fields = Pattern.compile("\\bstatic (int|long|boolean)[^;{(]*[;=]").matcher(code);
        must(!fields.find(), "a static field that is not final");
    }

    private static void methodLengths(String source) {
        String[] lines = source.split("\n");
        String open = "";
        int begun = 0;
        for (int i = 0; i < lines.length; i++) {
            if (lines[i].matches("( {4}| {8})[a-zA-Z].*\\) \\{") && !lines[i].contains(" class ")) {
                open = lines[i].replaceAll("\\S.*", "");
                begun = i;
                must(lines[i].split(",").length <= 7, "more than seven parameters: " + lines[i].trim());
            }
            if (lines[i].equals(open + "}") && begun > 0) {
                must(i - begun < 60, "a long method: " + lines[begun].trim());
                begun = 0;
            }
        }
    }

    private static void classes() {
        Set<String> face = new HashSet<>();
        for (Method method : ErrataLand.class.getDeclaredMethods()) {
            if (Modifier.isPublic(method.getModifiers())) {
                face.add(method.getName());
            }
        }
        for (Method method : ErrataLand.class.getDeclaredMethods()) {
            must(Modifier.isPublic(method.getModifiers()) || !face.contains(method.getName()), "a second " + method);
        }
        must(ErrataLand.class.getDeclaredClasses().length < 12, "too many classes");
        fields(ErrataLand.class);
        for (Class<?> inside : ErrataLand.class.getDeclaredClasses()) {
            must(Modifier.isStatic(inside.getModifiers()), inside + " is not static");
            fields(inside);
            for (Method method : inside.getDeclaredMethods()) {
                must(!face.contains(method.getName()), method + " has a name of the face");
            }
        }
    }

    private static void fields(Class<?> one) {
        int fields = 0;
        for (Field field : one.getDeclaredFields()) {
            fields += Modifier.isStatic(field.getModifiers()) ? 0 : 1;
            must(!Modifier.isStatic(field.getModifiers()) || Modifier.isFinal(field.getModifiers()), field + " is static and not final");
        }
        must(fields <= 20, one + " has " + fields + " fields");
    }

    /** Who calls whom, the library, too, and who makes objects, by the JDK's javap where it is there. */
    private static void calls() throws Exception {
        Optional<ToolProvider> javap = ToolProvider.findFirst("javap");
        if (javap.isEmpty()) {
            System.out.println("there is no javap: how deep calls go was not looked at");
            return;
        }
        String path = Path.of(ErrataLand.class.getProtectionDomain().getCodeSource().getLocation().toURI()).toString();
        Map<String, Set<String>> called = new TreeMap<>();
        Set<Class<?>> all = new HashSet<>(Arrays.asList(ErrataLand.class.getDeclaredClasses()));
        all.add(ErrataLand.class);
        for (Class<?> one : all) {
            StringWriter out = new StringWriter();
            javap.get().run(new PrintWriter(out), new PrintWriter(out), "-c", "-p", path + "/" + one.getName() + ".class");
            readCalls(one.getName(), out.toString(), called);
        }
        must(called.size() > 150, "javap told of " + called.size() + " methods");
        for (String method : called.keySet()) {
            int depth = depth(method, called, new ArrayDeque<>());
            must(depth <= 8, "calls from " + method + " go " + depth + " deep");
        }
    }

    private static void readCalls(String name, String listing, Map<String, Set<String>> called) {
        Pattern method = Pattern.compile("^  (?:\\S.* )?([\\w$.]+)\\(.*\\).*;$");
        Pattern call = Pattern.compile("invoke\\w+.*// (?:Interface)?Method (\\S+?):");
        Set<String> now = new TreeSet<>();
        boolean constructor = false;
        for (String line : listing.split("\n")) {
            Matcher begins = method.matcher(line);
            if (begins.find()) {
                now = new TreeSet<>();
                constructor = begins.group(1).equals(name);
                called.put(name + "." + (constructor ? "\"<init>\"" : begins.group(1)), now);
            }
            must(constructor || !line.matches(".*: (new|newarray|anewarray|multianewarray) .*"), name + " makes objects in a call: " + line);
            must(!line.contains("Exception table") && !line.contains("invokedynamic") && !line.contains("athrow"), name + line);
            Matcher calls = call.matcher(line);
            if (calls.find()) {
                String to = calls.group(1).contains(".") ? calls.group(1) : name + "." + calls.group(1);
                must(to.startsWith("ErrataLand") || LIBRARY.contains(to), name + " calls " + to);
                now.add(to);
            }
        }
    }

    private static int depth(String method, Map<String, Set<String>> called, Deque<String> open) {
        must(!open.contains(method), method + " comes to itself by others");
        if (open.contains(method)) {
            return 0;
        }
        open.push(method);
        int deepest = 0;
        for (String to : called.getOrDefault(method, Set.of())) {
            if (!to.equals(method)) {
                deepest = Math.max(deepest, depth(to, called, open));
            }
        }
        open.pop();
        return deepest + 1;
    }
}
