import java.io.IOException;
import java.lang.reflect.Method;
import java.nio.file.Files;
import java.nio.file.Path;
import java.util.ArrayList;
import java.util.List;

/**
 * Holds src/test/sentences.txt against the document and the tests: each sentence of the document
 * stands there, in its order, and below it the tests that would fail if it were broken, or why
 * there is none. A sentence that the document gets anew, or tells otherwise, fails here until
 * somebody has read it.
 */
public final class SentencesTest {
    private static final Path MAP = Path.of("src/test/sentences.txt");
    private static final Path TESTS = Path.of("src/test/java");
    private static final Path DOCUMENT = Path.of("../shared/DOC.md");
    /** A full stop, maybe a bracket, and then what begins like a sentence. */
    private static final String BETWEEN_SENTENCES = "(?<=[.)]) (?=[A-Z(])";

    public static void main(String[] args) throws IOException {
        List<String> sentences = new ArrayList<>();
        List<String> tests = new ArrayList<>();
        for (String line : Files.readAllLines(MAP)) {
            if (line.startsWith("    ")) {
                tests.add(line.strip());
            } else if (!line.isEmpty() && !line.startsWith("== ")) {
                sentences.add(line);
            }
        }
        Check.due("each sentence has a line for its tests", sentences.size(), tests.size());
        for (String line : tests) {
            if (!line.startsWith("- ")) {
                testsAreThere(line);
            }
        }
        if (Files.exists(DOCUMENT)) {
            sameSentences(sentencesOf(Files.readAllLines(DOCUMENT)), sentences);
        } else {
            System.out.println("  no " + DOCUMENT + " here: its sentences are not compared");
        }
        Check.end();
    }

    /** Each name is that of a class and a method of it, which is also called there, or run. */
    private static void testsAreThere(String names) throws IOException {
        for (String name : names.split(" ")) {
            int dot = name.indexOf('.');
            String of = name.substring(0, dot);
            String method = name.substring(dot + 1);
            Path file = TESTS.resolve(of + ".java");
            Check.due(name + ": its file is there", true, Files.exists(file) && of.endsWith("Test"));
            if (Files.exists(file)) {
                Check.due(name + " is a method", true, isMethod(of, method));
                int told = Files.readString(file).split("\\b" + method + "\\(", -1).length - 1;
                Check.due(name + " is called", true, told >= 2 || method.equals("main"));
            }
        }
    }

    private static boolean isMethod(String of, String name) {
        try {
            for (Method method : Class.forName(of).getDeclaredMethods()) {
                if (method.getName().equals(name)) {
                    return true;
                }
            }
        } catch (ClassNotFoundException none) {
            return false;
        }
        return false;
    }

    private static List<String> sentencesOf(List<String> document) {
        List<String> sentences = new ArrayList<>();
        boolean code = false;
        for (String line : document) {
            code ^= line.startsWith("```");
            if (code || line.isEmpty() || line.startsWith("#") || line.startsWith("```")) {
                continue;
            }
            String told = line.startsWith("- ") ? line.substring(2) : line;
            for (String sentence : told.split(BETWEEN_SENTENCES)) {
                boolean heading = sentence.matches("\\w+\\.");
                if (!heading) {
                    sentences.add(sentence);
                }
            }
        }
        return sentences;
    }

    private static void sameSentences(List<String> document, List<String> map) {
        Check.due("sentences", document.size(), map.size());
        for (int place = 0; place < Math.min(document.size(), map.size()); place++) {
            if (!document.get(place).equals(map.get(place))) {
                Check.report("the document tells: " + document.get(place));
                Check.report("sentences.txt tells: " + map.get(place));
                return;
            }
        }
    }
}
