import java.lang.reflect.Field;
import java.lang.reflect.Method;
import java.lang.reflect.Modifier;
import java.nio.file.Files;
import java.nio.file.Path;
import java.util.Set;
import java.util.regex.Pattern;

/** The rules of LANGUAGE.md that can be read off the class and its text; rule 1 is PublicFaceTest's. */
public final class LanguageTest {
    private static final Path SOURCE = Path.of("src/main/java/CausalPlaces.java");
    private static final Set<Class<?>> STATIC_TYPES = Set.of(
            int.class, long.class, boolean.class, char.class, String.class, int[].class, long[].class, char[].class,
            byte[].class);
    private static final Due due = new Due("language");

    public static void main(String[] args) throws Exception {
        classes();
        String code = withoutComments(Files.readString(SOURCE));
        words(code);
        shortMethods(code);
        due.end();
    }

    private static void classes() {
        Class<?>[] inside = CausalPlaces.class.getDeclaredClasses();
        due.is("number of classes", inside.length < 12, true);
        members(CausalPlaces.class);
        for (Class<?> c : inside) {
            due.is("static " + c, Modifier.isStatic(c.getModifiers()), true);
            due.is("not public " + c, Modifier.isPublic(c.getModifiers()), false);
            members(c);
        }
    }

    private static void members(Class<?> c) {
        for (Method m : c.getDeclaredMethods()) {
            due.is("parameters of " + m, m.getParameterCount() <= 7, true);
            due.is("own " + m, Set.of("equals", "hashCode", "toString").contains(m.getName()), false);
        }
        int ofEachObject = 0;
        for (Field f : c.getDeclaredFields()) {
            if (!Modifier.isStatic(f.getModifiers())) {
                ofEachObject++;
            } else if (!f.isEnumConstant() && !f.isSynthetic()) {
                due.is("final " + f.getName(), Modifier.isFinal(f.getModifiers()), true);
                due.is("type of " + f.getName(), STATIC_TYPES.contains(f.getType()), true);
            }
        }
        due.is("fields of " + c, ofEachObject <= 20, true);
    }

    private static String withoutComments(String text) {
        return text.replaceAll("(?s)/\\*.*?\\*/", "").replaceAll("//[^\n]*", "");
    }

    private static void words(String code) {
        String[] forbidden = {
            "\\b(throw|throws|try|catch|synchronized|assert|package|protected|volatile)\\b", "::",
            "\\bimport (?!java\\.util\\.(ArrayList|List|Arrays|Iterator);)", "\\bSystem\\.(?!arraycopy\\b)",
            "\\b(Thread|Random|random|Class|Scanner|File)\\b", "static\\s*\\{", "\\w+Exact\\b",
            "while\\s*\\(\\s*true", "for\\s*\\(\\s*;\\s*;", "[^\\x00-\\xff]"
        };
        for (String word : forbidden) {
            due.is("found " + word, Pattern.compile(word).matcher(code).find(), false);
        }
        for (String line : code.split("\n")) {
            boolean lambda = line.contains("->") && !line.matches("\\s*(case|default)\\b.*");
            due.is("a lambda in " + line, lambda, false);
        }
    }

    private static void shortMethods(String code) {
        int depth = 0;
        int lines = 0;
        for (String line : code.split("\n")) {
            boolean head = line.matches("( {4}| {8})[a-zA-Z].*\\) \\{") && !line.matches(" *(if|for|while|switch).*");
            if (head) {
                depth = line.length() - line.stripLeading().length();
                lines = 0;
            }
            lines++;
            if (depth > 0 && line.equals(" ".repeat(depth) + "}")) {
                due.is("a method of " + lines + " lines", lines <= 60, true);
                depth = 0;
            }
        }
    }
}
