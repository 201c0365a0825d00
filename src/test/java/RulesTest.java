import java.io.IOException;
import java.lang.reflect.Constructor;
import java.lang.reflect.Field;
import java.lang.reflect.Method;
import java.lang.reflect.Modifier;
import java.nio.file.Files;
import java.nio.file.Path;
import java.util.Arrays;
import java.util.Set;
import java.util.TreeSet;
import java.util.regex.Matcher;
import java.util.regex.Pattern;

/** The public face of the document, and what of LANGUAGE.md can be seen from outside or in the source. */
public final class RulesTest {
    private static final String[] FACE = {"say(long)int", "trim(int)int", "charAt(int)int", "schema()int", "read()int",
        "write()int", "keep()int", "line(int)int", "told(int,int)int", "argument(int,int,int)int",
        "item(int,int,int)int", "set(int,int,int)int", "wrong(int,int)int", "from(int,int)int", "ring(int)int",
        "place(int,int)long", "alike(int,int)boolean", "join()int", "differs(int,int)int", "count(int)int"};

    public static void main(String[] args) throws IOException {
        Due due = new Due();
        face(due);
        members(due);
        source(due);
        room(due);
        due.end();
    }

    private static String told(Method m) {
        StringBuilder out = new StringBuilder(m.getName()).append('(');
        for (Class<?> type : m.getParameterTypes()) {
            out.append(out.charAt(out.length() - 1) == '(' ? "" : ",").append(type.getName());
        }
        return out.append(')').append(m.getReturnType().getName()).toString();
    }

    private static void face(Due due) {
        Set<String> found = new TreeSet<>();
        for (Method m : ExchangeText.class.getDeclaredMethods()) {
            if (!Modifier.isPrivate(m.getModifiers())) {
                found.add((Modifier.isPublic(m.getModifiers()) ? "" : "hidden ") + told(m));
            }
        }
        due.answers("the methods", new TreeSet<>(Arrays.asList(FACE)).toString(), found.toString());
        Set<String> fields = new TreeSet<>();
        for (Field f : ExchangeText.class.getDeclaredFields()) {
            if (!Modifier.isPrivate(f.getModifiers())) {
                fields.add(Modifier.toString(f.getModifiers()) + " " + f.getType() + " " + f.getName());
            }
        }
        due.answers("the constants", "[public static final int LONG, public static final int NONE,"
                + " public static final long RING]", fields.toString());
        Constructor<?>[] makers = ExchangeText.class.getDeclaredConstructors();
        due.is("constructors", 1, () -> makers.length);
        due.is("it is public", 1, () -> Due.one(Modifier.isPublic(makers[0].getModifiers())));
        due.is("without parameters", 0, () -> makers[0].getParameterCount());
        due.is("public and final", 1, () -> Due.one(Modifier.isPublic(ExchangeText.class.getModifiers())
                && Modifier.isFinal(ExchangeText.class.getModifiers())));
    }

    private static void members(Due due) {
        Set<String> publicNames = new TreeSet<>();
        for (String method : FACE) {
            publicNames.add(method.substring(0, method.indexOf('(')));
        }
        Class<?>[] inside = ExchangeText.class.getDeclaredClasses();
        due.is("some twelve classes at most", 1, () -> Due.one(inside.length <= 12));
        for (Class<?> c : inside) {
            due.is(c + " is static", 1, () -> Due.one(Modifier.isStatic(c.getModifiers())));
            due.is(c + " is hidden", 1, () -> Due.one(!Modifier.isPublic(c.getModifiers())));
            for (Method m : c.getDeclaredMethods()) {
                due.is(m + " bears no name of the face", 0, () -> Due.one(publicNames.contains(m.getName())));
                due.is(m + " has seven parameters at most", 1, () -> Due.one(m.getParameterCount() <= 7));
            }
        }
        for (Method m : ExchangeText.class.getDeclaredMethods()) {
            due.is(m + " bears no name of the face", 0, () -> Due.one(
                    Modifier.isPrivate(m.getModifiers()) && publicNames.contains(m.getName())));
        }
    }

    private static void source(Due due) throws IOException {
        String source = Files.readString(Path.of("src/main/java/ExchangeText.java"));
        String code = Pattern.compile("/\\*.*?\\*/|//[^\n]*", Pattern.DOTALL).matcher(source).replaceAll("");
        String[] none = {"import ", "package ", "->", "::", "try", "catch", "finally", "synchronized", "assert",
            "getMessage", "Exact", "static {", "System.out", "hashCode", "float", "double", "while (true)", "for (;;)"};
        for (String word : none) {
            due.answers("the source has no " + word, "none", code.contains(word) ? "some" : "none");
        }
        Matcher thrown = Pattern.compile("throw new (\\w+)\\(").matcher(code);
        while (thrown.find()) {
            String name = thrown.group(1);
            due.answers("what is thrown", "fine",
                    name.equals("IllegalArgumentException") || name.equals("IllegalStateException") ? "fine" : name);
        }
    }

    /** A text as long as may be is written and read by turns: the calls must not fill the room. */
    private static void room(Due due) {
        StringBuilder text = new StringBuilder();
        for (int i = 1; i <= 40; i++) {
            text.append("#" + i + "=A(#" + (1 + i / 2) + ",(#1,#2),'x',.U.);");
        }
        ExchangeText x = Due.with("A=RMTE;", text.toString());
        com.sun.management.ThreadMXBean bean =
                (com.sun.management.ThreadMXBean) java.lang.management.ManagementFactory.getThreadMXBean();
        bean.getCurrentThreadAllocatedBytes();
        long before = bean.getCurrentThreadAllocatedBytes();
        for (int i = 0; i < 64; i++) {
            x.write();
            x.read();
            x.keep();
            x.join();
            x.differs(0, 0);
            x.wrong(0, 0);
            x.alike(1, 2);
            x.ring(0);
        }
        long made = bean.getCurrentThreadAllocatedBytes() - before;
        due.is("512 calls make next to nothing: " + made + " bytes", 1, () -> Due.one(made < 100000));
    }
}
