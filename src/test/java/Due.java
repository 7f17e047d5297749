import java.nio.charset.StandardCharsets;
import java.util.Arrays;

/** What the tests share: they say what is due, and tell texts. */
final class Due {
    private static int wrong = 0;
    private static int looked = 0;
    private static int lookedAtSentence = 0;
    private static int sentences = 0;
    private static String sentence = "";

    private Due() {
    }

    /** From here on all is due by these words of the document, told for this promise. */
    static void sentence(String promise, String words) {
        holds("something is looked at", sentences == 0 || looked > lookedAtSentence);
        sentence = promise + ": \"" + words + "\": ";
        sentences++;
        lookedAtSentence = looked;
    }

    static void is(String what, long got, long due) {
        looked++;
        if (got != due) {
            wrong++;
            if (wrong <= 40) {
                System.out.println(sentence + what + " answered " + got + ", due is " + due);
            }
        }
    }

    static void holds(String what, boolean holds) {
        is(what, holds ? 1 : 0, 1);
    }

    static int wrongSoFar() {
        return wrong;
    }

    static void end(String test) {
        String by = sentences > 0 ? " by " + sentences + " sentences" : "";
        System.out.println(test + ": " + looked + " answers" + by + ", " + wrong + " not as due");
        if (wrong != 0) {
            System.exit(1);
        }
    }

    static byte[] bytes(String text) {
        return text.getBytes(StandardCharsets.ISO_8859_1);
    }

    /** Brings a text of at most 400 bytes to the TAPE, whatever stood there. */
    static void tape(DoorLetters x, String text) {
        tape(x, bytes(text));
    }

    static void tape(DoorLetters x, byte[] text) {
        x.end(0);
        byte[] padded = Arrays.copyOf(text, (text.length + 19) / 20 * 20);
        for (int i = 0; i < padded.length; i += 20) {
            x.feed(at(padded, i), at(padded, i + 4), at(padded, i + 8), at(padded, i + 12), at(padded, i + 16));
        }
        x.end(text.length);
    }

    private static int at(byte[] b, int i) {
        return (b[i] & 255) << 24 | (b[i + 1] & 255) << 16 | (b[i + 2] & 255) << 8 | b[i + 3] & 255;
    }

    static int village(DoorLetters x, String text) {
        tape(x, text);
        return x.village();
    }

    static int rule(DoorLetters x, String text) {
        tape(x, text);
        return x.rule();
    }

    /** The text is told up to | alone for the place; 0 to 4 is the kind. */
    static void villageFault(String text, int kind) {
        is("VILLAGE " + text, village(new DoorLetters(), text.replace("|", "")), -2 - (1 + 8 * text.indexOf('|') + kind));
    }

    static void villageStands(String text, int people) {
        is("VILLAGE " + text, village(new DoorLetters(), text), people);
    }

    static void ruleFault(String text, int kind) {
        is("RULE " + text, rule(new DoorLetters(), text.replace("|", "")), -2 - (1 + 8 * text.indexOf('|') + kind));
    }

    static void ruleStands(String text) {
        is("RULE " + text, rule(new DoorLetters(), text), 0);
    }

    /** All that is told of an object by looking at it: what is due to stay where nothing happens. */
    static String all(DoorLetters x) {
        StringBuilder all = new StringBuilder();
        for (int what = 0; what < 14; what++) {
            all.append(x.count(what)).append(' ');
        }
        int people = x.count(1);
        int letters = x.count(2);
        for (int person = 0; person < people; person++) {
            for (int what = 0; what < 4; what++) {
                all.append(x.person(person, what)).append(' ');
            }
        }
        for (int letter = 0; letter < letters; letter++) {
            all.append(x.letter(letter, 0)).append(' ').append(x.letter(letter, 1)).append(' ');
        }
        return all.toString();
    }

    /** A new object with this VILLAGE, and with these RULES, the first of which is IN FORCE if there is one. */
    static DoorLetters told(String village, String... rules) {
        DoorLetters x = new DoorLetters();
        holds("VILLAGE " + village, village(x, village) >= 0);
        for (int i = 0; i < rules.length; i++) {
            is("RULE " + rules[i], rule(x, rules[i]), i);
        }
        if (rules.length > 0) {
            x.force(0);
        }
        return x;
    }
}
