import java.lang.reflect.Constructor;
import java.lang.reflect.Field;
import java.lang.reflect.Method;
import java.lang.reflect.Modifier;
import java.nio.file.Files;
import java.nio.file.Path;
import java.util.Arrays;
import java.util.List;
import java.util.Set;
import java.util.TreeSet;
import java.util.regex.Pattern;

/** The face of the class, and the rules of LANGUAGE.md that can be read off the text. */
public final class LanguageTest {
    private static final Path SOURCE = Path.of("src/main/java/CausalPlaces.java");
    private static final Set<Class<?>> STATIC_TYPES = Set.of(
            int.class, long.class, boolean.class, char.class, String.class, int[].class, long[].class, char[].class,
            byte[].class);
    private static final Due due = new Due("language");

    public static void main(String[] args) throws Exception {
        face();
        innerClasses();
        String code = withoutComments(Files.readString(SOURCE));
        words(code);
        shortMethods(code);
        due.end();
    }

    private static void face() {
        Class<?> c = CausalPlaces.class;
        due.is("public and final", c.getModifiers(), Modifier.PUBLIC | Modifier.FINAL);
        Set<String> methods = new TreeSet<>();
        Set<String> hidden = new TreeSet<>();
        for (Method m : c.getDeclaredMethods()) {
            if (Modifier.isPrivate(m.getModifiers())) {
                hidden.add(m.getName());
            } else {
                String types = Arrays.toString(m.getParameterTypes());
                methods.add(Modifier.toString(m.getModifiers()) + " " + m.getReturnType() + " " + m.getName() + types);
            }
        }
        Set<String> wanted = new TreeSet<>(List.of(
                "public int start[int]", "public int read[int, int]", "public int value[int]",
                "public boolean write[int, int, int]", "public int commit[int]", "public boolean abort[int]",
                "public int tick[int]", "public int deliver[int, int]", "public int client[int, int]",
                "public int server[int, int]", "public int transaction[int, int]", "public int written[int, int]",
                "public int version[int, int, int]", "public int link[int, int, int]"));
        due.is("methods " + methods, methods.equals(wanted), true);
        for (String name : wanted) {
            String bare = name.substring(name.lastIndexOf(' ', name.indexOf('[')) + 1, name.indexOf('['));
            due.is("private method " + bare, hidden.contains(bare), false);
        }
        for (Field f : c.getDeclaredFields()) {
            boolean open = !Modifier.isPrivate(f.getModifiers());
            due.is("open field " + f.getName(), open, f.getName().equals("NONE"));
            if (Modifier.isStatic(f.getModifiers())) {
                due.is("final " + f.getName(), Modifier.isFinal(f.getModifiers()), true);
                due.is("type of " + f.getName(), STATIC_TYPES.contains(f.getType()), true);
            }
        }
        Constructor<?>[] constructors = c.getDeclaredConstructors();
        due.is("constructors", constructors.length, 1);
        due.is("public constructor", constructors[0].getModifiers(), Modifier.PUBLIC);
        due.is("its parameters", constructors[0].getParameterCount(), 0);
    }

    private static void innerClasses() {
        Class<?>[] all = CausalPlaces.class.getDeclaredClasses();
        due.is("number of classes", all.length <= 12, true);
        for (Class<?> inner : all) {
            due.is("static " + inner, Modifier.isStatic(inner.getModifiers()), true);
            due.is("not public " + inner, Modifier.isPublic(inner.getModifiers()), false);
            due.is("fields of " + inner, inner.getDeclaredFields().length <= 20, true);
            for (Method m : inner.getDeclaredMethods()) {
                due.is("parameters of " + m, m.getParameterCount() <= 7, true);
                due.is("own " + m, Set.of("equals", "hashCode", "toString").contains(m.getName()), false);
            }
        }
    }

    private static String withoutComments(String text) {
        return text.replaceAll("(?s)/\\*.*?\\*/", "").replaceAll("//[^\n]*", "");
    }

    private static void words(String code) {
        String[] forbidden = {
            "\\b(throw|throws|try|catch|synchronized|assert|package|protected|volatile)\\b", "::",
            "\\bimport (?!java\\.util\\.(ArrayList|List|Arrays|Iterator);)", "\\bSystem\\.(?!arraycopy\\b)",
            "\\b(Thread|Random|random|Class|Scanner|File)\\b", "static\\s*\\{", "\\w+Exact\\b",
            "while\\s*\\(\\s*true", "for\\s*\\(\\s*;\\s*;", "[^\\x00-\\xff]"
        };
        for (String word : forbidden) {
            due.is("found " + word, Pattern.compile(word).matcher(code).find(), false);
        }
        for (String line : code.split("\n")) {
            boolean lambda = line.contains("->") && !line.matches("\\s*(case|default)\\b.*");
            due.is("a lambda in " + line, lambda, false);
        }
    }

    private static void shortMethods(String code) {
        int depth = 0;
        int lines = 0;
        for (String line : code.split("\n")) {
            boolean head = line.matches("( {4}| {8})[a-zA-Z].*\\) \\{") && !line.matches(" *(if|for|while|switch).*");
            if (head) {
                depth = line.length() - line.stripLeading().length();
                lines = 0;
            }
            lines++;
            if (depth > 0 && line.equals(" ".repeat(depth) + "}")) {
                due.is("a method of " + lines + " lines", lines <= 60, true);
                depth = 0;
            }
        }
    }
}
