import java.io.IOException;
import java.lang.management.ManagementFactory;
import java.lang.reflect.Constructor;
import java.lang.reflect.Field;
import java.lang.reflect.Method;
import java.lang.reflect.Modifier;
import java.nio.file.Files;
import java.nio.file.Path;
import java.util.HashSet;
import java.util.List;
import java.util.Set;
import java.util.TreeSet;
import java.util.regex.Matcher;
import java.util.regex.Pattern;

/** The document's face, some rules of ../shared/LANGUAGE.md, and the room that a run takes. */
public final class FaceTest {
    private static final String FACE = "feed5 end1 village0 rule0 force1 person2 letter2 day0 begin1 live2 give2 hush1 undo0 "
        + "fits3 whose2 ask2 know1 pairs1 best0 way2 join2 rests4 ahead3 first1 nobody0 often2 start2 lives2 writes2 "
        + "alike1 pence2 note2 ruled1 look1 seed1 rains4 count1 image1 back1";
    private static final Path SOURCE = Path.of("src/main/java/DoorLetters.java");

    public static void main(String[] args) throws IOException {
        face();
        classesInside();
        words();
        lengths();
        room();
        Due.end("FaceTest");
    }

    private static void face() {
        Set<String> due = new TreeSet<>(List.of(FACE.split(" ")));
        Set<String> got = new TreeSet<>();
        for (Method m : DoorLetters.class.getDeclaredMethods()) {
            if (!Modifier.isPrivate(m.getModifiers())) {
                Due.holds("public: " + m, Modifier.isPublic(m.getModifiers()) && !Modifier.isStatic(m.getModifiers()));
                Due.holds("an int: " + m, m.getReturnType() == int.class);
                got.add(m.getName() + m.getParameterCount());
            }
        }
        Due.holds("the face " + got + " is " + due, got.equals(due));
        for (Field f : DoorLetters.class.getDeclaredFields()) {
            Due.holds("private: " + f, Modifier.isPrivate(f.getModifiers()) || f.getName().equals("NONE"));
        }
        Constructor<?>[] constructors = DoorLetters.class.getDeclaredConstructors();
        Due.is("constructors", constructors.length, 1);
        Due.is("its arguments", constructors[0].getParameterCount(), 0);
        Due.holds("final", Modifier.isFinal(DoorLetters.class.getModifiers()));
        Due.holds("public", Modifier.isPublic(DoorLetters.class.getModifiers()));
    }

    private static void classesInside() {
        Set<String> publicNames = new HashSet<>();
        for (String name : FACE.split(" ")) {
            publicNames.add(name.substring(0, name.length() - 1));
        }
        Class<?>[] inside = DoorLetters.class.getDeclaredClasses();
        Due.holds("some twelve classes", inside.length <= 12);
        looksRight(DoorLetters.class, publicNames);
        for (Class<?> c : inside) {
            Due.holds("static: " + c, Modifier.isStatic(c.getModifiers()));
            Due.holds("neither public nor protected: " + c, (c.getModifiers() & (Modifier.PUBLIC | Modifier.PROTECTED)) == 0);
            looksRight(c, publicNames);
        }
    }

    private static void looksRight(Class<?> c, Set<String> publicNames) {
        int fields = 0;
        for (Field f : c.getDeclaredFields()) {
            boolean isStatic = Modifier.isStatic(f.getModifiers());
            Due.holds("a constant: " + f, !isStatic || Modifier.isFinal(f.getModifiers()));
            fields += isStatic ? 0 : 1;
        }
        Due.holds("some twenty fields: " + c, fields <= 20);
        for (Method m : c.getDeclaredMethods()) {
            Due.holds("seven parameters: " + m, m.getParameterCount() <= 7);
            Due.holds("another name: " + m, c == DoorLetters.class && Modifier.isPublic(m.getModifiers())
                || !publicNames.contains(m.getName()));
        }
    }

    /** The source without comments and the signs in its texts. */
    private static String code() throws IOException {
        String all = Files.readString(SOURCE);
        return all.replaceAll("(?s)/\\*.*?\\*/", "").replaceAll("//[^\n]*", "").replaceAll("\"[^\"\n]*\"", "\"\"")
            .replaceAll("'.'", "''");
    }

    private static void words() throws IOException {
        String code = code();
        for (String word : List.of("throw", "throws", "try", "catch", "finally", "synchronized", "assert", "volatile",
            "protected", "Object", "System.out", "Exception", "record", "yield", "var", "package", "instanceof",
            "MAX_VALUE", "MIN_VALUE", "toString", "hashCode")) {
            Due.holds("no " + word, !Pattern.compile("\\b" + Pattern.quote(word) + "\\b").matcher(code).find());
        }
        Due.holds("no lambda", !code.contains("->"));
        Due.holds("no method reference", !code.contains("::"));
        Due.holds("no text joined by +", !code.contains("\"\" +") && !code.contains("+ \"\""));
        Matcher imports = Pattern.compile("import ([^;]*);").matcher(code);
        while (imports.find()) {
            Due.holds("import " + imports.group(1), imports.group(1).equals("java.util.Arrays"));
        }
        Matcher library = Pattern.compile("\\b(Arrays|System|Integer|Math|Long|String)\\.(\\w+)").matcher(code);
        while (library.find()) {
            Due.holds("library " + library.group(), Set.of("fill", "copyOf", "arraycopy", "bitCount", "min", "max")
                .contains(library.group(2)));
        }
        for (int i = 0; i < code.length(); i++) {
            Due.holds("a sign 1 to 127", code.charAt(i) < 128);
        }
    }

    private static void lengths() throws IOException {
        int from = -1;
        List<String> lines = Files.readAllLines(SOURCE);
        for (int i = 0; i < lines.size(); i++) {
            String line = lines.get(i);
            Due.holds("line " + (i + 1) + " is 120 signs at most", line.length() <= 120);
            if (line.matches("( {4}| {8})[a-zA-Z].*\\) \\{") && !line.contains(" class ")) {
                from = i;
            }
            if (from >= 0 && line.matches("( {4}| {8})\\}")) {
                Due.holds("some sixty lines, from line " + (from + 1), i - from < 60);
                from = -1;
            }
        }
    }

    /** What a thread has allocated, if this machine tells. */
    private static long allocated() {
        return ManagementFactory.getThreadMXBean() instanceof com.sun.management.ThreadMXBean bean
            ? bean.getThreadAllocatedBytes(Thread.currentThread().getId()) : 0;
    }

    private static DoorLetters worst() {
        DoorLetters x = Due.told("village 8" + ";person 255 9 9".repeat(7) + ";letter 0".repeat(10));
        for (int i = 0; i < 6; i++) {
            Due.rule(x, "claim 0*" + "has*".repeat(59 - 2) + "1");
        }
        x.force(0);
        for (int i = 0; i < 4; i++) {
            x.image(i);
        }
        for (int i = 0; i < 10; i++) {
            x.note(51 + i, -1);
        }
        return x;
    }

    private static int askAll(DoorLetters x) {
        int sum = x.day() + x.image(1) + x.back(1) + x.undo() + x.live(0, 0) + x.begin(1) + x.hush(0) + x.give(0, 0);
        sum += x.fits(0, 0, 0) + x.whose(0, 1) + x.ask(127, 0) + x.know(0) + x.pairs(0) + x.best() + x.way(0, 0) + x.join(255, 0);
        sum += x.rests(0, 1, 0, 0) + x.ahead(0, 100, 0) + x.first(0) + x.nobody() + x.often(100, 0) + x.start(40, 0);
        sum += x.alike(0) + x.pence(9999, 0) + x.ruled(0) + x.look(0) + x.rains(10, 60, 50, 0) + x.count(8);
        return sum + x.lives(0, 0) + x.writes(0, 0);
    }

    private static void room() {
        DoorLetters warm = worst();
        askAll(warm);
        long start = allocated();
        DoorLetters x = new DoorLetters();
        long made = allocated();
        Due.holds("a new object takes " + (made - start) + " bytes, 32768 at most", made - start <= 32768);
        DoorLetters y = worst();
        long before = allocated();
        for (int i = 0; i < 4; i++) {
            askAll(y);
        }
        long after = allocated();
        Due.holds("what is asked takes " + (after - before) + " bytes, 4096 at most", after - before <= 4096);
        Due.is("objects are apart", x.count(3), 0);
    }
}
