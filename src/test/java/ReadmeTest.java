import java.io.File;
import java.lang.reflect.Method;
import java.lang.reflect.Modifier;
import java.net.URL;
import java.net.URLClassLoader;
import java.nio.file.Files;
import java.nio.file.Path;
import java.util.ArrayList;
import java.util.List;
import java.util.regex.Matcher;
import java.util.regex.Pattern;
import javax.tools.ToolProvider;

/** The examples of README.md are compiled, and each call answers what is told behind it. */
public final class ReadmeTest {
    private static final Pattern BLOCK = Pattern.compile("```java\n(.*?)```", Pattern.DOTALL);
    /** A call with what it answers: a number, true or false, or "throws" and an exception's name. */
    private static final Pattern ASKED =
            Pattern.compile("(x\\.(\\w+)\\(.*\\)); +// (throws \\w+|true|false|-?\\d+)\\b.*");

    private final Due due = new Due();
    private final StringBuilder members = new StringBuilder();
    private final StringBuilder statements = new StringBuilder();
    private final List<String> asked = new ArrayList<>();

    public static void main(String[] args) throws Exception {
        ReadmeTest test = new ReadmeTest();
        test.takeBlocks(Files.readString(Path.of("README.md")));
        test.namesEveryCall();
        test.compileAndRun();
    }

    private void takeBlocks(String readme) {
        Matcher block = BLOCK.matcher(readme);
        while (block.find()) {
            if (block.group(1).startsWith("static ")) {
                members.append(block.group(1));
            } else {
                block.group(1).lines().forEach(this::takeStatement);
            }
        }
    }

    /** A call whose answer is not told where an answer is due would go untested, so it counts as wrong. */
    private void takeStatement(String line) {
        Matcher call = ASKED.matcher(line);
        if (!call.matches()) {
            due.answers("an answer told behind " + line, "true", Boolean.toString(!line.startsWith("x.")));
            statements.append(line).append('\n');
            return;
        }
        asked.add(call.group(2));
        String answer = call.group(1);
        answer = call.group(2).equals("alike") ? "Due.one(" + answer + ")" : answer;
        statements.append("due.answers(\"README: ").append(call.group(1)).append("\", \"")
                .append(wanted(call.group(3))).append("\", Due.outcome(() -> ").append(answer).append("));\n");
    }

    private static String wanted(String told) {
        return switch (told) {
            case "true" -> "1";
            case "false" -> "0";
            default -> told.replace("throws ", "throws.");
        };
    }

    private void namesEveryCall() {
        for (Method method : ExchangeText.class.getDeclaredMethods()) {
            String name = method.getName();
            if (Modifier.isPublic(method.getModifiers())) {
                boolean named = asked.contains(name) || members.indexOf("x." + name + "(") >= 0;
                due.answers("README has an example of " + name, "true", Boolean.toString(named));
            }
        }
    }

    private void compileAndRun() throws Exception {
        Path folder = Files.createTempDirectory("readme");
        Path source = folder.resolve("Examples.java");
        // What is told last goes first, so the folder is empty when it goes.
        for (Path made : List.of(folder, source, folder.resolve("Examples.class"))) {
            made.toFile().deleteOnExit();
        }
        Files.writeString(source, "public final class Examples {\n" + members
                + "public static void main(String[] args) {\nDue due = new Due();\n"
                + statements + "due.end();\n}\n}\n");
        String path = System.getProperty("java.class.path");
        int failed = ToolProvider.getSystemJavaCompiler().run(null, null, null,
                "-cp", path, "-d", folder.toString(), source.toString());
        due.answers("compiling the examples of README.md", "0", Integer.toString(failed));
        due.end();
        run(folder, path);
    }

    /** One new loader has the examples and what they use, for they see no class of another loader's. */
    private static void run(Path folder, String path) throws Exception {
        List<URL> places = new ArrayList<>(List.of(folder.toUri().toURL()));
        for (String place : path.split(File.pathSeparator)) {
            places.add(Path.of(place).toUri().toURL());
        }
        URL[] all = places.toArray(new URL[0]);
        try (URLClassLoader loader = new URLClassLoader(all, ClassLoader.getPlatformClassLoader())) {
            Class<?> examples = loader.loadClass("Examples");
            examples.getMethod("main", String[].class).invoke(null, (Object) new String[0]);
        }
    }
}
