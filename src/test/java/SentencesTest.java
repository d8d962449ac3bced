import java.io.IOException;
import java.lang.reflect.Method;
import java.lang.reflect.Modifier;
import java.nio.file.Files;
import java.nio.file.Path;
import java.util.ArrayList;
import java.util.List;
import java.util.Set;
import java.util.TreeSet;
import java.util.stream.Collectors;
import java.util.stream.Stream;

/** Each sentence of ../shared/DOC.md has a test that bears it, and no test bears one that does not stand there. */
public final class SentencesTest {
    private static final Set<String> WITHOUT_SENTENCES = Set.of("StarterBay", "The public face", "Not promised");
    // The name of the whole: what it sums up has sentences of its own.
    private static final String SUMMARY = "What it is: A bay of soft starters for pump motors, second by second:";

    public static void main(String[] args) {
        Check.all(SentencesTest.class);
    }

    static void eachSentenceHasATest(Check check) throws IOException, ClassNotFoundException {
        Set<String> tested = sentencesOfTests();
        List<String> document = sentencesOfDocument();
        check.yes("the document has been read: " + document.size(), document.size() > 100);
        for (String sentence : document) {
            check.yes("there is a test of \"" + sentence + "\"", tested.contains(sentence) || sentence.startsWith(SUMMARY));
        }
    }

    static void noTestBearsAnother(Check check) throws IOException, ClassNotFoundException {
        Set<String> document = new TreeSet<>(sentencesOfDocument());
        for (String sentence : sentencesOfTests()) {
            check.yes("the document says \"" + sentence + "\"", document.contains(sentence));
        }
    }

    // A method that Check.all passes by would bear its sentence for nothing.
    static void allThatBearSentencesAreRun(Check check) throws IOException, ClassNotFoundException {
        for (Class<?> tests : testClasses()) {
            for (Method method : tests.getDeclaredMethods()) {
                if (method.isAnnotationPresent(Sentence.class)) {
                    check.yes(method + " is run", Check.isTest(method) && Modifier.isStatic(method.getModifiers()));
                }
            }
            String source = Files.readString(Path.of("src/test/java/" + tests.getName() + ".java"));
            check.yes(tests + " runs all of its tests", source.contains("Check.all(" + tests.getName() + ".class)"));
        }
    }

    private static List<Class<?>> testClasses() throws IOException, ClassNotFoundException {
        List<String> names;
        try (Stream<Path> files = Files.list(Path.of("src/test/java"))) {
            names = files.map(file -> file.getFileName().toString()).filter(name -> name.endsWith("Test.java"))
                    .map(name -> name.substring(0, name.length() - 5)).sorted().collect(Collectors.toList());
        }
        List<Class<?>> classes = new ArrayList<>();
        for (String name : names) {
            classes.add(Class.forName(name));
        }
        return classes;
    }

    private static Set<String> sentencesOfTests() throws IOException, ClassNotFoundException {
        Set<String> found = new TreeSet<>();
        for (Class<?> tests : testClasses()) {
            for (Method method : tests.getDeclaredMethods()) {
                Sentence sentence = method.getAnnotation(Sentence.class);
                for (String said : sentence == null ? new String[0] : sentence.says()) {
                    found.add(sentence.of() + ": " + said);
                }
            }
        }
        return found;
    }

    private static List<String> sentencesOfDocument() throws IOException {
        List<String> found = new ArrayList<>();
        String heading = "";
        for (String paragraph : Files.readString(Path.of("../shared/DOC.md")).split("\n\\s*\n")) {
            if (paragraph.startsWith("#")) {
                heading = paragraph.strip().replaceAll("^#+ ", "").replaceAll("^(Promise \\d+):.*", "$1");
            } else if (paragraph.strip().matches("[A-Z]+")) {
                heading = paragraph.strip();
            } else if (!WITHOUT_SENTENCES.contains(heading)) {
                for (String sentence : split(paragraph)) {
                    found.add(heading + ": " + sentence);
                }
            }
        }
        return found;
    }

    // The face of a call, the marks of a list and of a block, and the numbers of the points are no sentences.
    private static List<String> split(String paragraph) {
        List<String> found = new ArrayList<>();
        String bare = paragraph.replaceAll("(?m)^```.*$", "").replaceFirst("^`(int )?\\w+\\([^)]*\\)`:\\s", "");
        for (String entry : bare.split("(?m)^- ")) {
            for (String sentence : entry.strip().replaceAll("\\s+", " ").split("(?<=\\.) (?=[A-Z])")) {
                if (!sentence.isEmpty() && !sentence.matches("\\d+\\.")) {
                    found.add(sentence);
                }
            }
        }
        return found;
    }
}
