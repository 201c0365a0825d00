import java.io.IOException;
import java.lang.reflect.Constructor;
import java.lang.reflect.Executable;
import java.lang.reflect.Field;
import java.lang.reflect.Method;
import java.lang.reflect.Modifier;
import java.nio.file.Files;
import java.nio.file.Path;
import java.util.Arrays;
import java.util.Set;
import java.util.TreeSet;
import java.util.regex.Matcher;
import java.util.regex.Pattern;

/** The public face of the document, and what of LANGUAGE.md can be seen from outside or in the source. */
public final class RulesTest {
    private static final String BAD = " throws IllegalArgumentException";
    /** The document's face, as its lines stand there, but without the names of parameters. */
    private static final String[] FACE = {
        "public ExchangeText()",
        "public int say(long)" + BAD + ", IllegalStateException",
        "public int trim(int)" + BAD,
        "public int charAt(int)" + BAD,
        "public int schema()",
        "public int read()",
        "public int write()",
        "public int keep()",
        "public int line(int)" + BAD,
        "public int told(int, int)" + BAD,
        "public int argument(int, int, int)" + BAD,
        "public int item(int, int, int)" + BAD,
        "public int set(int, int, int)" + BAD,
        "public int wrong(int, int)" + BAD,
        "public int from(int, int)" + BAD,
        "public int ring(int)" + BAD,
        "public long place(int, int)" + BAD,
        "public boolean alike(int, int)" + BAD,
        "public int join()",
        "public int differs(int, int)" + BAD,
        "public int count(int)" + BAD};

    public static void main(String[] args) throws IOException {
        Due due = new Due();
        document(due);
        face(due);
        constants(due);
        members(due);
        source(due);
        room(due);
        due.end();
    }

    /** The face that is written out above is the one that the document has. */
    private static void document(Due due) throws IOException {
        String document = Files.readString(Path.of("../shared/DOC.md"));
        int begin = document.indexOf("public final class ExchangeText {");
        String block = document.substring(begin, document.indexOf("```", begin));
        Set<String> told = new TreeSet<>();
        Matcher line = Pattern.compile("(public [^=;{]*)\\(([^)]*)\\)([^;]*);").matcher(block);
        while (line.find()) {
            told.add(line.group(1) + "(" + line.group(2).replaceAll(" \\w+(?=,|$)", "") + ")" + line.group(3));
        }
        sameFace(due, "in the document", told);
    }

    /** What the class declares, exceptions and their order too. */
    private static void face(Due due) {
        Set<String> found = new TreeSet<>();
        for (Method m : ExchangeText.class.getDeclaredMethods()) {
            if (!Modifier.isPrivate(m.getModifiers())) {
                found.add(declared(m, m.getReturnType().getSimpleName() + " " + m.getName()));
            }
        }
        for (Constructor<?> c : ExchangeText.class.getDeclaredConstructors()) {
            found.add(declared(c, c.getDeclaringClass().getSimpleName()));
        }
        sameFace(due, "in the class", found);
    }

    private static String declared(Executable e, String name) {
        String modifiers = Modifier.toString(e.getModifiers());
        String thrown = simpleNames(e.getExceptionTypes());
        return (modifiers + " " + name).trim() + "(" + simpleNames(e.getParameterTypes()) + ")"
                + (thrown.isEmpty() ? "" : " throws " + thrown);
    }

    private static String simpleNames(Class<?>[] types) {
        StringBuilder out = new StringBuilder();
        for (Class<?> type : types) {
            out.append(out.length() == 0 ? "" : ", ").append(type.getSimpleName());
        }
        return out.toString();
    }

    private static void sameFace(Due due, String where, Set<String> found) {
        Set<String> all = new TreeSet<>(Arrays.asList(FACE));
        all.addAll(found);
        for (String member : all) {
            String want = Arrays.asList(FACE).contains(member) ? "there" : "not there";
            due.answers(where + ": " + member, want, found.contains(member) ? "there" : "not there");
        }
    }

    private static void constants(Due due) {
        Set<String> fields = new TreeSet<>();
        for (Field f : ExchangeText.class.getDeclaredFields()) {
            if (!Modifier.isPrivate(f.getModifiers())) {
                fields.add(Modifier.toString(f.getModifiers()) + " " + f.getType() + " " + f.getName());
            }
        }
        due.answers("the constants", "[public static final int LONG, public static final int NONE,"
                + " public static final long RING]", fields.toString());
        due.is("NONE", -1, () -> ExchangeText.NONE);
        due.is("LONG", -2, () -> ExchangeText.LONG);
        due.is("RING", 1000000000000L, () -> ExchangeText.RING);
        due.is("public and final", 1, () -> Due.one(Modifier.isPublic(ExchangeText.class.getModifiers())
                && Modifier.isFinal(ExchangeText.class.getModifiers())));
    }

    private static void members(Due due) {
        Set<String> publicNames = new TreeSet<>();
        for (Method m : ExchangeText.class.getDeclaredMethods()) {
            if (Modifier.isPublic(m.getModifiers())) {
                publicNames.add(m.getName());
            }
        }
        Class<?>[] inside = ExchangeText.class.getDeclaredClasses();
        due.is("some twelve classes at most", 1, () -> Due.one(inside.length <= 12));
        for (Class<?> c : inside) {
            due.is(c + " is static", 1, () -> Due.one(Modifier.isStatic(c.getModifiers())));
            due.is(c + " is hidden", 1, () -> Due.one(!Modifier.isPublic(c.getModifiers())));
            for (Method m : c.getDeclaredMethods()) {
                due.is(m + " bears no name of the face", 0, () -> Due.one(publicNames.contains(m.getName())));
                due.is(m + " has seven parameters at most", 1, () -> Due.one(m.getParameterCount() <= 7));
            }
        }
        for (Method m : ExchangeText.class.getDeclaredMethods()) {
            due.is(m + " bears no name of the face", 0, () -> Due.one(
                    Modifier.isPrivate(m.getModifiers()) && publicNames.contains(m.getName())));
        }
    }

    private static void source(Due due) throws IOException {
        String source = Files.readString(Path.of("src/main/java/ExchangeText.java"));
        String code = Pattern.compile("/\\*.*?\\*/|//[^\n]*", Pattern.DOTALL).matcher(source).replaceAll("");
        String[] none = {"import ", "package ", "->", "::", "try", "catch", "finally", "synchronized", "assert",
            "getMessage", "Exact", "static {", "System.out", "hashCode", "float", "double", "while (true)", "for (;;)"};
        for (String word : none) {
            due.answers("the source has no " + word, "none", code.contains(word) ? "some" : "none");
        }
        Matcher thrown = Pattern.compile("throw new (\\w+)\\(").matcher(code);
        while (thrown.find()) {
            String name = thrown.group(1);
            due.answers("what is thrown", "fine",
                    name.equals("IllegalArgumentException") || name.equals("IllegalStateException") ? "fine" : name);
        }
    }

    /** A text as long as may be is written and read by turns: the calls must not fill the room. */
    private static void room(Due due) {
        StringBuilder text = new StringBuilder();
        for (int i = 1; i <= 40; i++) {
            text.append("#" + i + "=A(#" + (1 + i / 2) + ",(#1,#2),'x',.U.);");
        }
        ExchangeText x = Due.with("A=RMTE;", text.toString());
        com.sun.management.ThreadMXBean bean =
                (com.sun.management.ThreadMXBean) java.lang.management.ManagementFactory.getThreadMXBean();
        bean.getCurrentThreadAllocatedBytes();
        long before = bean.getCurrentThreadAllocatedBytes();
        for (int i = 0; i < 64; i++) {
            x.write();
            x.read();
            x.keep();
            x.join();
            x.differs(0, 0);
            x.wrong(0, 0);
            x.alike(1, 2);
            x.ring(0);
        }
        long made = bean.getCurrentThreadAllocatedBytes() - before;
        due.is("512 calls make next to nothing: " + made + " bytes", 1, () -> Due.one(made < 100000));
    }
}
