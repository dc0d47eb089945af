import java.io.IOException;
import java.lang.reflect.Constructor;
import java.lang.reflect.Field;
import java.lang.reflect.Method;
import java.lang.reflect.Modifier;
import java.nio.file.Files;
import java.nio.file.Path;
import java.util.ArrayList;
import java.util.Arrays;
import java.util.List;
import java.util.Set;
import java.util.TreeSet;
import java.util.regex.Matcher;
import java.util.regex.Pattern;

/** The class has the public face of the document, and nothing else that others can see. */
public final class PublicFaceTest {
    private static final Path DOCUMENT = Path.of("../shared/DOC.md");
    private static final Path SOURCE = Path.of("src/main/java/CausalPlaces.java");
    private static final Pattern FACE_OF_DOCUMENT = Pattern.compile("(?s)## The public face\\s+```java\n(.*?)```");
    private static final String HEAD = "public final class CausalPlaces {";
    private static final List<String> MEMBERS = List.of(
            "public static final int NONE = -1;",
            "public CausalPlaces();",
            "public int start(int client);",
            "public int read(int client, int key);",
            "public int value(int client);",
            "public boolean write(int client, int key, int v);",
            "public int commit(int client);",
            "public boolean abort(int client);",
            "public int tick(int server);",
            "public int deliver(int from, int to);",
            "public int client(int c, int what);",
            "public int server(int s, int what);",
            "public int transaction(int n, int what);",
            "public int written(int n, int key);",
            "public int version(int server, int key, int i);",
            "public int link(int from, int to, int what);");
    private static final Due due = new Due("public face");

    public static void main(String[] args) throws IOException {
        sameAsInTheDocument();
        everyLineStandsInTheClass();
        nothingElseIsOpen();
        due.end();
    }

    private static void sameAsInTheDocument() throws IOException {
        if (!Files.isReadable(DOCUMENT)) {
            System.out.println("public face: not compared, as " + DOCUMENT + " is not there");
            return;
        }
        Matcher face = FACE_OF_DOCUMENT.matcher(Files.readString(DOCUMENT).replace("\r", ""));
        List<String> wanted = new ArrayList<>();
        if (face.find()) {
            face.group(1).lines().map(String::strip).forEach(wanted::add);
        }
        List<String> tested = new ArrayList<>(MEMBERS);
        tested.add(0, HEAD);
        tested.add("}");
        due.is("this test's face is the document's: " + wanted, wanted.equals(tested), true);
    }

    /** By the text, so that the parameters' names count too. */
    private static void everyLineStandsInTheClass() throws IOException {
        List<String> lines = Files.readString(SOURCE).lines().toList();
        due.is(HEAD, lines.contains(HEAD), true);
        for (String member : MEMBERS) {
            String line = member.endsWith(");") ? member.replace(");", ") {") : member;
            due.is(line, lines.contains("    " + line), true);
        }
    }

    private static void nothingElseIsOpen() {
        Class<?> c = CausalPlaces.class;
        due.is("public and final", c.getModifiers(), Modifier.PUBLIC | Modifier.FINAL);
        due.is("no class above it", c.getSuperclass() == Object.class && c.getInterfaces().length == 0, true);
        Set<String> open = new TreeSet<>();
        Set<String> hidden = new TreeSet<>();
        for (Method m : c.getDeclaredMethods()) {
            if (Modifier.isPrivate(m.getModifiers())) {
                hidden.add(m.getName());
            } else {
                String head = Modifier.toString(m.getModifiers()) + " " + m.getReturnType() + " " + m.getName();
                open.add(head + Arrays.toString(m.getParameterTypes()));
            }
        }
        Set<String> wanted = new TreeSet<>();
        for (String member : MEMBERS) {
            if (member.contains("(int ")) {
                String types = member.replaceAll("\\bint \\w+([,)])", "int$1");
                wanted.add(types.replace("(", "[").replace(");", "]"));
                String name = member.replaceAll("^public \\w+ |\\(.*", "");
                due.is("a private method " + name, hidden.contains(name), false);
            }
        }
        due.is("methods " + open, open.equals(wanted), true);
        for (Field f : c.getDeclaredFields()) {
            due.is("open field " + f.getName(), !Modifier.isPrivate(f.getModifiers()), f.getName().equals("NONE"));
        }
        Constructor<?>[] constructors = c.getDeclaredConstructors();
        due.is("constructors", constructors.length, 1);
        due.is("public constructor", constructors[0].getModifiers(), Modifier.PUBLIC);
        due.is("its parameters", constructors[0].getParameterCount(), 0);
    }
}
