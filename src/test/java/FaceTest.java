import java.io.IOException;
import java.lang.reflect.Constructor;
import java.lang.reflect.Field;
import java.lang.reflect.Method;
import java.lang.reflect.Modifier;
import java.nio.file.Files;
import java.nio.file.Path;
import java.util.ArrayList;
import java.util.List;
import java.util.Set;
import java.util.TreeSet;
import java.util.regex.Pattern;

/** The public face as the document has it, and those rules of LANGUAGE.md that can be seen from outside. */
public final class FaceTest {
    private static final String[] FACE = {"int town()", "boolean fog(int,int,int)", "boolean road(int,int,int,int)",
        "int news(int,int,int)", "int person(int)", "int hears(int,int,int)", "int store()", "int issue(int,int,int,int)",
        "boolean give(int,int,int,int)", "int call(int,int,int)", "int come(int,int)", "int spoil(int,int)",
        "int over(int,int)", "int storeOf(int,int)", "int told(int,int)", "long coins(int)", "boolean pay(int,int)",
        "boolean draw(int,int)", "int feed(int,int,int,int,int)", "int rules(int,int)", "int fault()", "int rule(int)",
        "int heard(int)", "boolean wind(int)", "int light()", "int cry(int,boolean,int,int)", "int back(int)",
        "boolean note(int,boolean,int,int)", "boolean deny(int,boolean)", "int pass(int)", "int session(int,int)",
        "int bargain(int,int,int)", "int best(int)", "boolean owe(int,int,int)", "int fails(int,int)",
        "int other(int,int,int)", "int least(int)", "int judged(int,int)", "int count(int)", "long sum(int)"};

    private FaceTest() {
    }

    public static void main(String[] args) throws IOException {
        face();
        inside();
        source(Files.readString(Path.of("src/main/java/RiceHall.java")));
        Due.is("NONE", RiceHall.NONE, -1);
        Due.end();
    }

    private static void face() {
        Due.is("public final", RiceHall.class.getModifiers(), Modifier.PUBLIC | Modifier.FINAL);
        Set<String> wants = new TreeSet<>(List.of(FACE));
        Set<String> found = new TreeSet<>();
        Set<String> names = new TreeSet<>();
        for (Method m : RiceHall.class.getDeclaredMethods()) {
            if (Modifier.isPublic(m.getModifiers())) {
                List<String> types = new ArrayList<>();
                for (Class<?> t : m.getParameterTypes()) {
                    types.add(t.getName());
                }
                found.add(m.getReturnType().getName() + " " + m.getName() + "(" + String.join(",", types) + ")");
                names.add(m.getName());
            }
        }
        Due.is("the face is " + found, found.equals(wants), true);
        for (Method m : RiceHall.class.getDeclaredMethods()) {
            boolean hidden = Modifier.isPrivate(m.getModifiers()) && !names.contains(m.getName());
            Due.is(m + " is public or a private one of another name", Modifier.isPublic(m.getModifiers()) || hidden, true);
        }
        for (Field f : RiceHall.class.getDeclaredFields()) {
            Due.is(f + " is private", Modifier.isPrivate(f.getModifiers()) || f.getName().equals("NONE"), true);
        }
        Constructor<?>[] made = RiceHall.class.getDeclaredConstructors();
        Due.is("constructors", made.length, 1);
        Due.is("it takes nothing", made[0].getParameterCount(), 0);
        Due.is("it's public", Modifier.isPublic(made[0].getModifiers()), true);
    }

    private static void inside() {
        List<Class<?>> all = new ArrayList<>(List.of(RiceHall.class.getDeclaredClasses()));
        Due.is("classes", all.size() + 1 <= 12, true);
        all.add(RiceHall.class);
        for (Class<?> c : all) {
            int fields = 0;
            for (Field f : c.getDeclaredFields()) {
                boolean isStatic = Modifier.isStatic(f.getModifiers());
                fields += isStatic ? 0 : 1;
                Due.is(f + " is final if static", !isStatic || Modifier.isFinal(f.getModifiers()), true);
            }
            Due.is(c + " has few fields", fields <= 20, true);
            Due.is(c + " has no classes", c == RiceHall.class || c.getDeclaredClasses().length == 0, true);
            Due.is(c + " is static", c == RiceHall.class || Modifier.isStatic(c.getModifiers()), true);
            for (Method m : c.getDeclaredMethods()) {
                Due.is(m + " bears no public one's name", c == RiceHall.class || !isFaceName(m.getName()), true);
                Due.is(m + " takes few", m.getParameterCount() <= 7, true);
                Due.is(m + " isn't made by the compiler", m.isSynthetic(), false);
            }
        }
    }

    private static boolean isFaceName(String name) {
        for (String method : FACE) {
            if (method.contains(" " + name + "(")) {
                return true;
            }
        }
        return false;
    }

    private static void source(String source) {
        String code = source.replaceAll("(?s)/\\*.*?\\*/", "").replaceAll("//[^\n]*", "");
        String bare = code.replaceAll("\"[^\"\n]*\"", "\"\"");
        String[] refused = {"\\bthrow\\b", "\\btry\\b", "\\bcatch\\b", "\\bsynchronized\\b", "\\bassert\\b", "Exact\\b",
            "->", "::", "\\bSystem\\.(?!arraycopy)", "\\bRandom\\b", "\\bThread\\b", "\\bpackage\\b", "\\bstatic \\{",
            "\\bString\\[\\]", "\" *\\+", "\\+ *\""};
        for (String pattern : refused) {
            Due.is("the source has " + pattern, Pattern.compile(pattern).matcher(bare).find(), false);
        }
        int length = 0;
        for (String line : code.split("\n")) {
            length = line.matches(" {4,8}\\S.*\\{") && !line.contains(" class ") ? 0 : length + 1;
            Due.is("a method longer than sixty lines: " + line, length > 70 && line.matches(" {4,8}\\}"), false);
        }
    }
}
