import java.lang.reflect.InvocationTargetException;
import java.lang.reflect.Method;
import java.lang.reflect.Modifier;
import java.util.ArrayList;
import java.util.Comparator;
import java.util.List;
import java.util.Random;

/** Whatever is called with whatever numbers, in whatever state: nothing throws, and the same calls answer the same. */
public final class AnythingTest {
    private static final int[] EDGES = {Integer.MIN_VALUE, Integer.MIN_VALUE + 1, -400, -33, -32, -31, -8, -3, -2, -1, 0, 1,
        2, 3, 4,
        5, 6, 7, 8, 9, 10, 11, 13, 14, 15, 31, 32, 33, 40, 41, 59, 60, 61, 63, 64, 99, 100, 101, 127, 128, 255, 256, 399, 400, 401,
        511, 512, 998, 999, 1000, 1023, 1024, 9999, 10000, 65535, 65536, Integer.MAX_VALUE - 1, Integer.MAX_VALUE};
    private static final String[] TEXTS = {
        "village 8" + ";person 255 9 9".repeat(7) + ";letter 255".repeat(10), "village 1", "village 1;letter 1",
        "village 8;person 1 2 3", "village 3;person 1 2 3;person 6 1 0;person 7 9 9;letter 3;letter 4;letter 0",
        "claim 1", "claim 0", "claim fits - lacks if pride > shame or [not seen < 2 and has % 3 = day / 0]",
        "claim 1 if " + "not ".repeat(10) + "beyond * letter = person",
        "claim 1" + "*99999".repeat(59), "claim 1 if [[[[[[[[[[1 <= 1]]]]]]]]]]", "x", ""};

    private final Random random;
    private final DoorLetters x = new DoorLetters();
    private final DoorLetters y = new DoorLetters();

    private AnythingTest(long seed) {
        random = new Random(seed);
    }

    public static void main(String[] args) {
        List<Method> face = new ArrayList<>();
        for (Method m : DoorLetters.class.getDeclaredMethods()) {
            if (Modifier.isPublic(m.getModifiers())) {
                face.add(m);
            }
        }
        face.sort(Comparator.comparing(Method::getName));
        for (int seed = 0; seed < 120; seed++) {
            new AnythingTest(seed).run(face, "run " + seed);
        }
        Due.end("AnythingTest");
    }

    private void run(List<Method> face, String run) {
        for (int i = 0; i < 512; i++) {
            if (random.nextInt(12) == 0) {
                String text = TEXTS[random.nextInt(TEXTS.length)];
                Due.tape(x, text);
                Due.tape(y, text);
                Due.is(run + ": " + text, y.count(13), x.count(13));
                if (random.nextBoolean()) {
                    Due.is(run + ": village() of " + text, y.village(), x.village());
                } else {
                    Due.is(run + ": rule() of " + text, y.rule(), x.rule());
                }
            }
            Method m = face.get(random.nextInt(face.size()));
            Object[] numbers = new Object[m.getParameterCount()];
            StringBuilder call = new StringBuilder(run + ": " + m.getName());
            for (int k = 0; k < numbers.length; k++) {
                int number = random.nextInt(3) == 0 ? EDGES[random.nextInt(EDGES.length)] : random.nextInt(5);
                numbers[k] = number;
                call.append(' ').append(number);
            }
            Due.is(call.toString(), answer(y, m, numbers), answer(x, m, numbers));
        }
    }

    private static int answer(DoorLetters z, Method m, Object[] numbers) {
        try {
            return (int) m.invoke(z, numbers);
        } catch (InvocationTargetException e) {
            Due.is(m.getName() + " threw " + e.getCause(), 1, 0);
            return 0;
        } catch (IllegalAccessException e) {
            throw new IllegalStateException(e);
        }
    }
}
