import java.io.IOException;
import java.lang.reflect.Constructor;
import java.lang.reflect.Field;
import java.lang.reflect.Method;
import java.lang.reflect.Modifier;
import java.nio.file.Files;
import java.nio.file.Path;
import java.util.Set;
import java.util.TreeSet;
import java.util.regex.Matcher;
import java.util.regex.Pattern;

/** The face of the class, and those rules of LANGUAGE.md that can be looked for in its source. */
public final class LanguageTest {
    private static final Path DOCUMENT = Path.of("../shared/DOC.md");
    private static final String[] BANNED = {"\\bthrows?\\b", "\\btry\\b", "\\bcatch\\b",
        "\\bsynchronized\\b", "\\bassert\\b", "\\bimport\\b", "\\bpackage\\b", "->", "::",
        "Exact\\b", "\\bObject\\b", "\\bSystem\\.(?!arraycopy)", "\\bRandom\\b", "\\bThread\\b",
        "\\btoString\\b", "\\bhashCode\\b", "\\bdouble\\b", "\\bfloat\\b", "\\b(Integer|Long)\\.M"};
    private static final int METHOD_LINES = 60, PARAMETERS = 7, CLASSES = 12, FIELDS = 20;
    private static final Check c = new Check();

    public static void main(String[] args) throws IOException {
        face();
        nested();
        source();
        c.finish();
    }

    private static void face() throws IOException {
        String asked = Files.readString(DOCUMENT).replaceFirst("(?s).*?```java\n(.*?)```.*", "$1");
        Class<?> type = TenPledges.class;
        c.due("1 the class is public and final", type.getModifiers(), Modifier.PUBLIC | Modifier.FINAL);
        Set<String> methods = new TreeSet<>();
        Set<String> names = new TreeSet<>();
        for (Method m : type.getDeclaredMethods()) {
            if (Modifier.isPublic(m.getModifiers())) {
                c.due("1 " + m.getName() + " is of the object", m.getModifiers(), Modifier.PUBLIC);
                methods.add(m.toString().replace("public ", "").replace("TenPledges.", ""));
                names.add(m.getName());
            }
        }
        c.due("1 the methods: " + methods, methods.equals(methodsOf(asked)) ? 1 : 0, 1);
        c.due("1 the promises behind the first", methods.size(), 38);
        for (Method m : type.getDeclaredMethods()) {
            if (!Modifier.isPublic(m.getModifiers())) {
                c.due("1 " + m + " is private", m.getModifiers() & Modifier.PRIVATE, Modifier.PRIVATE);
                c.due("1 " + m + " has a name of its own", names.contains(m.getName()) ? 1 : 0, 0);
            }
        }
        constants(asked);
        Constructor<?>[] makers = type.getDeclaredConstructors();
        c.due("1 constructors", makers.length, 1);
        c.due("1 the constructor takes nothing", makers[0].getParameterCount(), 0);
        c.due("1 the constructor is public", makers[0].getModifiers(), Modifier.PUBLIC);
    }

    /** The methods of the document's face, written as Method writes them, without the constructor. */
    private static Set<String> methodsOf(String asked) {
        Set<String> methods = new TreeSet<>();
        Matcher found = Pattern.compile("public (int|long) (\\w+)\\((.*?)\\);").matcher(asked);
        while (found.find()) {
            String types = found.group(3).replaceAll(" \\w+(, |$)", ",").replaceAll(",$", "");
            methods.add(found.group(1) + " " + found.group(2) + "(" + types + ")");
        }
        return methods;
    }

    private static void constants(String asked) {
        int constants = 0;
        for (Field f : TenPledges.class.getDeclaredFields()) {
            constants += Modifier.isPublic(f.getModifiers()) ? 1 : 0;
            boolean open = Modifier.isPublic(f.getModifiers()) || Modifier.isPrivate(f.getModifiers());
            c.due("1 " + f + " is of the face, or private", open ? 1 : 0, 1);
        }
        c.due("1 constants", constants, 4);
        Matcher found = Pattern.compile("([A-Z]+) = (-?\\d+)").matcher(asked);
        for (int i = 0; i < constants && found.find(); i++) {
            c.due("1 " + found.group(1), constantOf(found.group(1)), Integer.parseInt(found.group(2)));
        }
    }

    private static int constantOf(String name) {
        try {
            Field f = TenPledges.class.getField(name);
            c.due("1 the kind of " + name, f.getModifiers(),
                    Modifier.PUBLIC | Modifier.STATIC | Modifier.FINAL);
            return f.getInt(null);
        } catch (ReflectiveOperationException e) {
            return 0;
        }
    }

    private static void nested() {
        Class<?>[] inside = TenPledges.class.getDeclaredClasses();
        c.due("11 classes", inside.length + 1 <= CLASSES ? 1 : 0, 1);
        fieldsOf(TenPledges.class);
        for (Class<?> type : inside) {
            c.due("2 " + type + " is static", type.getModifiers() & Modifier.STATIC, Modifier.STATIC);
            for (Method m : type.getDeclaredMethods()) {
                c.due("1 " + m + " has a name of its own", isOfFace(m.getName()) ? 1 : 0, 0);
            }
            fieldsOf(type);
        }
    }

    private static boolean isOfFace(String name) {
        for (Method m : TenPledges.class.getMethods()) {
            if (m.getDeclaringClass() == TenPledges.class && m.getName().equals(name)) {
                return true;
            }
        }
        return false;
    }

    private static void fieldsOf(Class<?> type) {
        int fields = 0;
        for (Field f : type.getDeclaredFields()) {
            if (Modifier.isStatic(f.getModifiers())) {
                c.due("5 " + f + " is final", f.getModifiers() & Modifier.FINAL, Modifier.FINAL);
            } else {
                fields++;
            }
        }
        c.due("11 " + type + " has " + fields + " fields", fields <= FIELDS ? 1 : 0, 1);
        for (Method m : type.getDeclaredMethods()) {
            c.due("11 parameters of " + m, m.getParameterCount() <= PARAMETERS ? 1 : 0, 1);
        }
    }

    private static void source() throws IOException {
        String all = Files.readString(Path.of("src/main/java/TenPledges.java"));
        String code = all.replaceAll("(?s)/\\*.*?\\*/", "").replaceAll("//[^\n]*", "");
        for (String word : BANNED) {
            Matcher found = Pattern.compile(word).matcher(code);
            c.due("4, 6 " + word + " in the source", found.find() ? 1 : 0, 0);
        }
        int line = 0;
        int opened = 0;
        for (String text : all.split("\n")) {
            line++;
            if (text.matches(" {4}( {4})?[A-Za-z].*\\) \\{")) {
                opened = line;
            }
            if (text.matches(" {4}( {4})?\\}") && opened != 0) {
                c.due("11 lines of the method at " + opened, line - opened <= METHOD_LINES ? 1 : 0, 1);
                opened = 0;
            }
            c.due("line " + line + " is not too long", text.length() <= 110 ? 1 : 0, 1);
        }
    }
}
