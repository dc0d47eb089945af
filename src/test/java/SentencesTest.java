import java.io.IOException;
import java.lang.reflect.Method;
import java.nio.file.Files;
import java.nio.file.Path;
import java.util.ArrayList;
import java.util.List;
import java.util.Map;
import java.util.TreeMap;
import java.util.regex.Matcher;
import java.util.regex.Pattern;
import java.util.stream.Stream;

/** Every sentence of the document's promises and terms stands, once, over a test of its own. */
public final class SentencesTest {
    private static final Path DOCUMENT = Path.of("../shared/DOC.md");
    private static final Path TESTS = Path.of("src/test/java");
    private static final Pattern SECTION_HEADS =
            Pattern.compile("(?m)^(## What it is|PART \\d\\.|## Promise \\d+: .*)");
    private static final Pattern NEXT_HEAD = Pattern.compile("(?m)^(## |PART \\d\\.)");
    private static final Due due = new Due("sentences");

    public static void main(String[] args) throws IOException, ClassNotFoundException {
        if (!Files.isReadable(DOCUMENT)) {
            System.out.println("sentences: not compared, as " + DOCUMENT + " is not there");
            return;
        }
        String document = Files.readString(DOCUMENT).replace("\r", "");
        Map<String, Class<?>> tests = testsBySection();
        List<String> sections = sectionsOf(document);
        due.is("sections", sections.size(), 19);
        for (String section : sections) {
            Class<?> found = tests.remove(section);
            due.is("section " + section + " has tests", found != null, true);
            if (found != null) {
                compare(section, textOf(document, section), Due.sentencesOf(found));
            }
        }
        due.is("tests of no section " + tests, tests.isEmpty(), true);
        due.end();
    }

    private static Map<String, Class<?>> testsBySection() throws IOException, ClassNotFoundException {
        Map<String, Class<?>> found = new TreeMap<>();
        List<Path> files;
        try (Stream<Path> all = Files.list(TESTS)) {
            files = all.filter(file -> file.toString().endsWith("Test.java")).toList();
        }
        for (Path file : files) {
            Class<?> test = Class.forName(file.getFileName().toString().replace(".java", ""));
            Section section = test.getAnnotation(Section.class);
            if (section != null) {
                due.is("first tests of " + section.value(), found.put(section.value(), test) == null, true);
            }
        }
        return found;
    }

    private static List<String> sectionsOf(String document) {
        List<String> found = new ArrayList<>();
        Matcher heads = SECTION_HEADS.matcher(document);
        while (heads.find()) {
            found.add(heads.group().strip());
        }
        return found;
    }

    /** The section's text on one line, without a promise's signature and the marks of a text block. */
    private static String textOf(String document, String section) {
        int begin = document.indexOf(section) + section.length();
        Matcher next = NEXT_HEAD.matcher(document);
        int end = next.find(begin) ? next.start() : document.length();
        String text = document.substring(begin, end).replaceAll("(?m)^```.*$", "");
        return text.replaceAll("\\s+", " ").strip().replaceFirst("^`[^`]*\\)`: ", "");
    }

    private static void compare(String section, String text, List<Method> tests) {
        boolean[] quoted = new boolean[text.length()];
        for (Method test : tests) {
            String words = test.getAnnotation(Says.class).value();
            String name = section + ", " + test.getName() + ", \"" + words + "\": ";
            int at = text.indexOf(words);
            due.is(name + "stands there", at >= 0, true);
            due.is(name + "stands there once", text.indexOf(words, at + 1) < 0, true);
            for (int i = at; at >= 0 && i < at + words.length(); i++) {
                due.is(name + "is quoted once", quoted[i], false);
                quoted[i] = true;
            }
        }
        due.is(section + " has no test for: " + leftOver(text, quoted), leftOver(text, quoted).isEmpty(), true);
    }

    private static String leftOver(String text, boolean[] quoted) {
        StringBuilder left = new StringBuilder();
        for (int i = 0; i < quoted.length; i++) {
            left.append(quoted[i] ? ' ' : text.charAt(i));
        }
        return left.toString().strip();
    }
}
