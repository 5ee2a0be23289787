import java.io.IOException;
import java.lang.reflect.Constructor;
import java.lang.reflect.Field;
import java.lang.reflect.Method;
import java.lang.reflect.Modifier;
import java.nio.file.Files;
import java.nio.file.Path;
import java.util.Set;
import java.util.TreeSet;
import java.util.regex.Matcher;
import java.util.regex.Pattern;

/** The face of the class, and those rules of LANGUAGE.md that can be looked for in its source. */
public final class LanguageTest {
    private static final String[] FACE = {
        "int feed(int)", "int end(int)", "int text()", "int fault()", "int rule(int)",
        "int man(int,int)", "int ten(int,int)", "int move(int,int)", "int leave(int)",
        "int swap(int,int)", "int watch(int,boolean)", "int kin(int,int,boolean)", "int odd(int,int)",
        "int law(int,int)", "int goods(int,int)", "int year(int)", "int pays(int,int)", "int harm()",
        "long calm(int,int)", "long mean(int,int)", "int best(int)", "int change(int)",
        "int takes(int)", "int weight(int)", "int should(int)", "int guard(int)", "int worth(int)",
        "int see(int,int)", "int forget(int)", "int fits(int)", "int drift(int,int,int)",
        "int keep(int)", "int back(int)", "int sheet(int,int,int)", "int lay(int,int,int)",
        "int read(int,int,int,int)", "int torn()", "int count(int)"};
    private static final String[] BANNED = {"\\bthrows?\\b", "\\btry\\b", "\\bcatch\\b",
        "\\bsynchronized\\b", "\\bassert\\b", "\\bimport\\b", "\\bpackage\\b", "->", "::",
        "Exact\\b", "\\bObject\\b", "\\bSystem\\.(?!arraycopy)", "\\bRandom\\b", "\\bThread\\b",
        "\\btoString\\b", "\\bhashCode\\b", "\\bdouble\\b", "\\bfloat\\b", "\\b(Integer|Long)\\.M"};
    private static final int METHOD_LINES = 60, PARAMETERS = 7, CLASSES = 12, FIELDS = 20;
    private static final Check c = new Check();

    public static void main(String[] args) throws IOException {
        face();
        nested();
        source();
        c.finish();
    }

    private static void face() {
        Class<?> type = TenPledges.class;
        c.due("1 the class is public and final", type.getModifiers(), Modifier.PUBLIC | Modifier.FINAL);
        Set<String> methods = new TreeSet<>();
        Set<String> names = new TreeSet<>();
        for (Method m : type.getDeclaredMethods()) {
            if (Modifier.isPublic(m.getModifiers())) {
                c.due("1 " + m.getName() + " is of the object", m.getModifiers(), Modifier.PUBLIC);
                methods.add(m.toString().replace("public ", "").replace("TenPledges.", ""));
                names.add(m.getName());
            }
        }
        c.due("1 the methods: " + methods, methods.equals(Set.of(FACE)) ? 1 : 0, 1);
        for (Method m : type.getDeclaredMethods()) {
            if (!Modifier.isPublic(m.getModifiers())) {
                c.due("1 " + m + " is private", m.getModifiers() & Modifier.PRIVATE, Modifier.PRIVATE);
                c.due("1 " + m + " has a name of its own", names.contains(m.getName()) ? 1 : 0, 0);
            }
        }
        int constants = 0;
        for (Field f : type.getDeclaredFields()) {
            constants += Modifier.isPublic(f.getModifiers()) ? 1 : 0;
            boolean open = Modifier.isPublic(f.getModifiers()) || Modifier.isPrivate(f.getModifiers());
            c.due("1 " + f + " is of the face, or private", open ? 1 : 0, 1);
        }
        c.due("1 constants", constants, 4);
        Constructor<?>[] makers = type.getDeclaredConstructors();
        c.due("1 constructors", makers.length, 1);
        c.due("1 the constructor takes nothing", makers[0].getParameterCount(), 0);
        c.due("1 the constructor is public", makers[0].getModifiers(), Modifier.PUBLIC);
    }

    private static void nested() {
        Class<?>[] inside = TenPledges.class.getDeclaredClasses();
        c.due("11 classes", inside.length + 1 <= CLASSES ? 1 : 0, 1);
        fieldsOf(TenPledges.class);
        for (Class<?> type : inside) {
            c.due("2 " + type + " is static", type.getModifiers() & Modifier.STATIC, Modifier.STATIC);
            fieldsOf(type);
        }
    }

    private static void fieldsOf(Class<?> type) {
        int fields = 0;
        for (Field f : type.getDeclaredFields()) {
            if (Modifier.isStatic(f.getModifiers())) {
                c.due("5 " + f + " is final", f.getModifiers() & Modifier.FINAL, Modifier.FINAL);
            } else {
                fields++;
            }
        }
        c.due("11 " + type + " has " + fields + " fields", fields <= FIELDS ? 1 : 0, 1);
        for (Method m : type.getDeclaredMethods()) {
            c.due("11 parameters of " + m, m.getParameterCount() <= PARAMETERS ? 1 : 0, 1);
        }
    }

    private static void source() throws IOException {
        String all = Files.readString(Path.of("src/main/java/TenPledges.java"));
        String code = all.replaceAll("(?s)/\\*.*?\\*/", "").replaceAll("//[^\n]*", "");
        for (String word : BANNED) {
            Matcher found = Pattern.compile(word).matcher(code);
            c.due("4, 6 " + word + " in the source", found.find() ? 1 : 0, 0);
        }
        int line = 0;
        int opened = 0;
        for (String text : all.split("\n")) {
            line++;
            if (text.matches(" {4}( {4})?[A-Za-z].*\\) \\{")) {
                opened = line;
            }
            if (text.matches(" {4}( {4})?\\}") && opened != 0) {
                c.due("11 lines of the method at " + opened, line - opened <= METHOD_LINES ? 1 : 0, 1);
                opened = 0;
            }
            c.due("line " + line + " is not too long", text.length() <= 110 ? 1 : 0, 1);
        }
    }
}
