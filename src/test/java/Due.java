import java.nio.charset.StandardCharsets;
import java.util.Arrays;

/** What the tests share: they say what is due, and tell texts. */
final class Due {
    private static int wrong = 0;
    private static int looked = 0;

    private Due() {
    }

    static void is(String what, long got, long due) {
        looked++;
        if (got != due) {
            wrong++;
            if (wrong <= 40) {
                System.out.println(what + " answered " + got + ", due is " + due);
            }
        }
    }

    static void holds(String what, boolean holds) {
        is(what, holds ? 1 : 0, 1);
    }

    static int wrongSoFar() {
        return wrong;
    }

    static void end(String test) {
        System.out.println(test + ": " + looked + " answers, " + wrong + " not as due");
        if (wrong != 0) {
            System.exit(1);
        }
    }

    static byte[] bytes(String text) {
        return text.getBytes(StandardCharsets.ISO_8859_1);
    }

    /** Brings a text of at most 400 bytes to the TAPE, whatever stood there. */
    static void tape(DoorLetters x, String text) {
        tape(x, bytes(text));
    }

    static void tape(DoorLetters x, byte[] text) {
        x.end(0);
        byte[] padded = Arrays.copyOf(text, (text.length + 19) / 20 * 20);
        for (int i = 0; i < padded.length; i += 20) {
            x.feed(at(padded, i), at(padded, i + 4), at(padded, i + 8), at(padded, i + 12), at(padded, i + 16));
        }
        x.end(text.length);
    }

    private static int at(byte[] b, int i) {
        return (b[i] & 255) << 24 | (b[i + 1] & 255) << 16 | (b[i + 2] & 255) << 8 | b[i + 3] & 255;
    }

    static int village(DoorLetters x, String text) {
        tape(x, text);
        return x.village();
    }

    static int rule(DoorLetters x, String text) {
        tape(x, text);
        return x.rule();
    }

    /** A new object with this VILLAGE, and with these RULES, the first of which is IN FORCE if there is one. */
    static DoorLetters told(String village, String... rules) {
        DoorLetters x = new DoorLetters();
        holds("VILLAGE " + village, village(x, village) >= 0);
        for (int i = 0; i < rules.length; i++) {
            is("RULE " + rules[i], rule(x, rules[i]), i);
        }
        if (rules.length > 0) {
            x.force(0);
        }
        return x;
    }
}
