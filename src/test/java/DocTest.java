import java.io.IOException;
import java.lang.reflect.Method;
import java.nio.file.Files;
import java.nio.file.Path;
import java.util.ArrayList;
import java.util.BitSet;
import java.util.HashMap;
import java.util.List;
import java.util.Map;
import java.util.TreeSet;
import java.util.regex.Matcher;
import java.util.regex.Pattern;

/**
 * The tests held against the document itself: its face is the class's, what a test quotes stands there, each promise
 * has sentences with tests, and no word of Terms and promises is left that no test quotes.
 */
public final class DocTest {
    private static final Path DOC = Path.of("../shared/DOC.md");
    private static final Path TESTS = Path.of("src/test/java");
    private static final int PROMISES = 40;
    private static final Pattern QUOTED = Pattern.compile("Due\\.sentence\\(\"([^\"]*)\",\\s*((?:\"(?:[^\"\\\\]|\\\\.)*\"\\s*\\+?\\s*)+)\\);");
    private static final Pattern TEXT = Pattern.compile("\"((?:[^\"\\\\]|\\\\.)*)\"");
    private static final Pattern NUMBERS = Pattern.compile("(\\d+)(?: to (\\d+))?");
    private static final Pattern CALL = Pattern.compile("public int (\\w+)\\(([^)]*)\\);");
    private static final Pattern HEADING = Pattern.compile("## Promise (\\d+): (\\w+) `int (\\w+)\\(([^)]*)\\)`:");
    /** What tells nothing that could be tested. */
    private static final List<String> NO_PROMISES = List.of("# DoorLetters .*? ==== I\\.", "## The public face ```java .*? ``` ## Terms",
        "```(text)?", "==== III?\\.", "## Promise \\d+: [^`]*`[^`]*`:", "## Not promised .*", "; what later calls answer is free");

    public static void main(String[] args) throws IOException {
        if (!Files.exists(DOC)) {
            System.out.println("DocTest: no " + DOC + " to look at");
            return;
        }
        String doc = Files.readString(DOC).replaceAll("\\s+", " ");
        face(doc);
        headings(doc);
        Map<String, TreeSet<String>> quotes = quotes();
        promises(quotes);
        words(doc, quotes);
        Due.end("DocTest");
    }

    private static String signature(String name, String parameters) {
        int many = parameters.isBlank() ? 0 : parameters.split(",").length;
        return name + "(" + "int ".repeat(many).trim() + ")";
    }

    private static TreeSet<String> signaturesOfTheClass() {
        TreeSet<String> all = new TreeSet<>();
        for (Method m : DoorLetters.class.getMethods()) {
            if (m.getDeclaringClass() == DoorLetters.class) {
                StringBuilder types = new StringBuilder();
                for (Class<?> type : m.getParameterTypes()) {
                    types.append(type).append(' ');
                }
                all.add(m.getName() + "(" + types.toString().trim() + ")");
            }
        }
        return all;
    }

    private static void face(String doc) {
        TreeSet<String> due = new TreeSet<>();
        Matcher m = CALL.matcher(doc);
        while (m.find()) {
            due.add(signature(m.group(1), m.group(2)));
        }
        Due.is("calls of the public face", due.size(), PROMISES - 1);
        Due.holds("the face is the document's: " + due, signaturesOfTheClass().equals(due));
    }

    private static void headings(String doc) {
        TreeSet<String> calls = signaturesOfTheClass();
        Matcher m = HEADING.matcher(doc);
        int many = 1;
        while (m.find()) {
            many++;
            Due.is("promise", Integer.parseInt(m.group(1)), many);
            Due.holds("promise " + many + " is of " + m.group(3), m.group(2).equals(m.group(3))
                && calls.contains(signature(m.group(3), m.group(4))));
        }
        Due.is("promises", many, PROMISES);
    }

    /** The quotes in all tests, by what they are told for. */
    private static Map<String, TreeSet<String>> quotes() throws IOException {
        Map<String, TreeSet<String>> quotes = new HashMap<>();
        List<Path> files = new ArrayList<>();
        try (var all = Files.newDirectoryStream(TESTS, "*Test.java")) {
            all.forEach(files::add);
        }
        for (Path file : files) {
            if (file.endsWith("DocTest.java")) {
                continue;
            }
            String source = Files.readString(file);
            int calls = source.split("Due\\.sentence\\(", -1).length - 1;
            Matcher m = QUOTED.matcher(source);
            while (m.find()) {
                calls--;
                StringBuilder words = new StringBuilder();
                Matcher text = TEXT.matcher(m.group(2));
                while (text.find()) {
                    words.append(text.group(1));
                }
                quotes.computeIfAbsent(m.group(1), k -> new TreeSet<>()).add(words.toString());
            }
            Due.is(file + ": sentences that this test can't read", calls, 0);
        }
        return quotes;
    }

    private static void promises(Map<String, TreeSet<String>> quotes) {
        TreeSet<Integer> named = new TreeSet<>();
        for (String promise : quotes.keySet()) {
            Matcher m = NUMBERS.matcher(promise);
            while (m.find()) {
                int from = Integer.parseInt(m.group(1));
                int to = m.group(2) == null ? from : Integer.parseInt(m.group(2));
                for (int i = from; i <= to; i++) {
                    named.add(i);
                }
            }
        }
        for (int i = 1; i <= PROMISES; i++) {
            Due.holds("promise " + i + " has a sentence with a test", named.contains(i));
        }
        Due.is("promises that are named", named.size(), PROMISES);
    }

    private static void words(String doc, Map<String, TreeSet<String>> quotes) {
        BitSet quoted = new BitSet();
        quotes.forEach((promise, all) -> {
            for (String words : all) {
                Due.holds("promise " + promise + ", in the document: " + words, doc.contains(words));
                for (int at = doc.indexOf(words); at >= 0; at = doc.indexOf(words, at + 1)) {
                    quoted.set(at, at + words.length());
                }
            }
        });
        for (String part : NO_PROMISES) {
            Matcher m = Pattern.compile(part).matcher(doc);
            while (m.find()) {
                quoted.set(m.start(), m.end());
            }
        }
        for (int at = quoted.nextClearBit(0); at < doc.length(); at = quoted.nextClearBit(at)) {
            int to = quoted.nextSetBit(at);
            to = to < 0 ? doc.length() : to;
            String left = doc.substring(at, to);
            Due.holds("a test quotes: " + left, !left.matches(".*[A-Za-z0-9].*"));
            at = to;
        }
    }
}
