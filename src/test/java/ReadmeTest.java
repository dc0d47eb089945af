import java.io.IOException;
import java.lang.reflect.Method;
import java.nio.file.Files;
import java.nio.file.Path;
import java.util.Map;
import java.util.TreeMap;
import java.util.regex.Matcher;
import java.util.regex.Pattern;

/** What README.md shows of the class's use is so: its calls, made in their order, answer as it says. */
public final class ReadmeTest {
    private static final Path README = Path.of("README.md");
    private static final Pattern USE = Pattern.compile("(?ms)^## Use$(.*?)^## ");
    private static final Pattern CODE = Pattern.compile("(?ms)^```java$(.*?)^```$");
    private static final Pattern CALL =
            Pattern.compile("store\\.(\\w+)\\(([-\\d, ]*)\\); +// (-?\\d+|true|false|NONE)(?: .*|: .*|; .*)?");
    private static final String MAKING = "CausalPlaces store = new CausalPlaces();";
    private static final Due due = new Due("README");
    private static final Map<String, Method> face = new TreeMap<>();

    public static void main(String[] args) throws IOException, ReflectiveOperationException {
        for (Method m : CausalPlaces.class.getMethods()) {
            if (m.getDeclaringClass() == CausalPlaces.class) {
                face.put(m.getName(), m);
            }
        }
        Map<String, Method> notShown = new TreeMap<>(face);
        CausalPlaces store = null;
        Matcher code = CODE.matcher(useSection());
        while (code.find()) {
            for (String line : code.group(1).strip().split("\n")) {
                if (line.equals(MAKING)) {
                    store = new CausalPlaces();
                } else {
                    notShown.remove(checkCall(store, line));
                }
            }
        }
        due.is("calls that are not shown: " + notShown.keySet(), notShown.isEmpty(), true);
        due.end();
    }

    private static String useSection() throws IOException {
        Matcher use = USE.matcher(Files.readString(README).replace("\r", ""));
        boolean found = use.find();
        due.is("README has a section on use", found, true);
        return found ? use.group(1) : "";
    }

    /** Answers the name of the method that was called. */
    private static String checkCall(CausalPlaces store, String line) throws ReflectiveOperationException {
        Matcher call = CALL.matcher(line);
        boolean readable = store != null && call.matches() && face.containsKey(call.group(1));
        due.is("a call with its answer: " + line, readable, true);
        if (!readable) {
            return "";
        }
        Method method = face.get(call.group(1));
        String[] words = call.group(2).split(", *");
        due.is("number of arguments: " + line, words.length, method.getParameterCount());
        Object[] arguments = new Object[words.length];
        for (int i = 0; i < words.length; i++) {
            arguments[i] = Integer.valueOf(words[i]);
        }
        String shown = call.group(3).equals("NONE") ? "-1" : call.group(3);
        String got = String.valueOf(method.invoke(store, arguments));
        due.is(line + " (it answers " + got + ")", got.equals(shown), true);
        return method.getName();
    }
}
