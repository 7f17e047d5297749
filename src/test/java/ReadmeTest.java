import java.io.IOException;
import java.lang.reflect.InvocationTargetException;
import java.lang.reflect.Method;
import java.lang.reflect.Modifier;
import java.nio.file.Files;
import java.nio.file.Path;
import java.util.List;
import java.util.regex.Matcher;
import java.util.regex.Pattern;

/** README.md says what is so: its calls, run one behind the other, answer what stands behind them, and none is left out. */
public final class ReadmeTest {
    private static final Path README = Path.of("README.md");
    private static final Pattern TELL = Pattern.compile("tell\\(x, \"([^\"]*)\"\\);");
    private static final Pattern CALL = Pattern.compile("x\\.(\\w+)\\(([^)]*)\\);\\s*// (-?\\d+)\\b.*");
    private static final int TOLD_CALLS = 40;

    private static DoorLetters x = null;

    public static void main(String[] args) throws IOException, InvocationTargetException, IllegalAccessException {
        String readme = Files.readString(README);
        boolean isCode = false;
        boolean isHelper = false;
        int calls = 0;
        for (String line : readme.lines().toList()) {
            if (line.startsWith("```")) {
                isCode = line.equals("```java");
                isHelper = false;
            } else if (isCode) {
                isHelper |= line.startsWith("static ");
                calls += isHelper ? 0 : follow(line);
            }
        }
        Due.holds("calls that README.md tells: " + calls, calls >= TOLD_CALLS);
        helper(readme);
        allIsNamed(readme);
        Due.end("ReadmeTest");
    }

    /** Does what a line says: how many answers it told. */
    private static int follow(String line) throws InvocationTargetException, IllegalAccessException {
        Matcher tell = TELL.matcher(line);
        Matcher call = CALL.matcher(line);
        if (line.equals("DoorLetters x = new DoorLetters();")) {
            x = new DoorLetters();
        } else if (tell.matches()) {
            tell(x, tell.group(1));
        } else if (call.matches()) {
            Due.is(line, answer(call.group(1), call.group(2)), Integer.parseInt(call.group(3)));
            return 1;
        } else {
            Due.holds("a line that can be followed: " + line, false);
        }
        return 0;
    }

    private static int answer(String name, String numbers) throws InvocationTargetException, IllegalAccessException {
        String[] told = numbers.isEmpty() ? new String[0] : numbers.split(", ");
        Object[] given = new Object[told.length];
        for (int i = 0; i < told.length; i++) {
            given[i] = told[i].equals("NONE") ? DoorLetters.NONE : Integer.parseInt(told[i]);
        }
        for (Method m : DoorLetters.class.getMethods()) {
            if (m.getName().equals(name) && m.getParameterCount() == given.length) {
                return (int) m.invoke(x, given);
            }
        }
        Due.holds("there is a call " + name, false);
        return 0;
    }

    /** Line by line as README.md tells it. */
    private static final List<String> HELPER = List.of(
        "static void tell(DoorLetters x, String text) {",
        "    x.end(0);",
        "    for (int at = 0; at < text.length(); at += 20) {",
        "        int[] five = new int[5];",
        "        for (int i = 0; i < 20 && at + i < text.length(); i++) {",
        "            five[i / 4] |= (text.charAt(at + i) & 255) << 24 - i % 4 * 8;",
        "        }",
        "        x.feed(five[0], five[1], five[2], five[3], five[4]);",
        "    }",
        "    x.end(text.length());",
        "}");

    private static void tell(DoorLetters x, String text) {
        x.end(0);
        for (int at = 0; at < text.length(); at += 20) {
            int[] five = new int[5];
            for (int i = 0; i < 20 && at + i < text.length(); i++) {
                five[i / 4] |= (text.charAt(at + i) & 255) << 24 - i % 4 * 8;
            }
            x.feed(five[0], five[1], five[2], five[3], five[4]);
        }
        x.end(text.length());
    }

    private static void helper(String readme) throws IOException {
        String lines = String.join("\n", HELPER);
        Due.holds("README.md tells the helper as it is here", readme.contains("```java\n" + lines + "\n```"));
        String here = Files.readString(Path.of("src/test/java/ReadmeTest.java"));
        Due.holds("and so it is run", here.contains("    private " + lines.replace("\n", "\n    ")));
        // bytes of all kinds, up to the whole TAPE: the last one's place is the FAULT's
        for (int length : new int[] {0, 1, 3, 4, 5, 19, 20, 21, 40, 399}) {
            DoorLetters y = new DoorLetters();
            tell(y, " ".repeat(length) + "\u00ff");
            Due.is("bytes", y.count(13), length + 1);
            Due.is("FAULT", y.village(), -2 - (1 + 8 * length));
        }
    }

    private static void allIsNamed(String readme) {
        for (Method m : DoorLetters.class.getDeclaredMethods()) {
            if (Modifier.isPublic(m.getModifiers())) {
                Matcher told = Pattern.compile("`" + m.getName() + "\\(([^)]*)\\)`").matcher(readme);
                Due.holds("README.md names " + m.getName(), told.find());
                String numbers = told.group(1);
                Due.is(m.getName() + " is given", numbers.isEmpty() ? 0 : numbers.split(", ").length, m.getParameterCount());
            }
        }
        for (String test : new String[] {".ci/run", "../shared/tests"}) {
            Due.holds("README.md names " + test, readme.contains(test));
        }
        String[] tests = Path.of("src/test/java").toFile().list((dir, name) -> name.endsWith("Test.java"));
        for (String test : tests) {
            Due.holds("README.md names " + test, readme.contains("`" + test.replace(".java", "") + "`"));
        }
    }
}
