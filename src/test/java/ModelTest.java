import java.util.Random;

/** Random runs, the same ones each time, on DoorLetters and on the Model: all answers must be the same. */
public final class ModelTest {
    private static final String[] WORDS = {"person", "fits", "lacks", "beyond", "pride", "shame", "seen", "has",
        "letter", "day"};
    private static final String[] SIGNS = {"<", "<=", "=", ">=", ">"};

    private final Random random;
    private final DoorLetters x = new DoorLetters();
    private final Model m = new Model();
    private final String run;
    private int calls = 0;

    private ModelTest(long seed) {
        random = new Random(seed);
        run = "run " + seed;
    }

    public static void main(String[] args) {
        int from = args.length > 0 ? Integer.parseInt(args[0]) : 0;
        int to = args.length > 1 ? Integer.parseInt(args[1]) : 400;
        for (int seed = from; seed < to; seed++) {
            new ModelTest(seed).faults();
        }
        for (int seed = from; seed < to && Due.wrongSoFar() == 0; seed++) {
            new ModelTest(seed).days();
        }
        Due.end("ModelTest");
    }

    // ---- texts

    private int below(int n) {
        return random.nextInt(n);
    }

    private boolean once(int in) {
        return random.nextInt(in) == 0;
    }

    private String blanks() {
        return once(6) ? " ".repeat(below(3)) : "";
    }

    private String villageText(int people, int letters, int matters) {
        StringBuilder b = new StringBuilder(blanks() + "village " + blanks() + matters);
        int all = 1 << matters;
        while (people + letters > 0) {
            b.append(blanks()).append(';').append(blanks());
            if (letters == 0 || people > 0 && random.nextBoolean()) {
                people--;
                b.append("person ").append(below(all)).append(' ').append(blanks()).append(below(10)).append(' ')
                    .append(below(once(3) ? 10 : 2));
            } else {
                letters--;
                b.append("letter ").append(blanks()).append(once(2) ? below(all) & below(all) : below(all));
            }
        }
        return b.append(blanks()).toString();
    }

    private String value() {
        if (once(60)) {
            return once(2) ? "99999" : "65536";
        }
        return once(3) ? "" + below(once(3) ? 20 : 4) : WORDS[below(WORDS.length)];
    }

    private String sum() {
        StringBuilder b = new StringBuilder(value());
        while (once(3)) {
            b.append(blanks()).append("+-*/%+-".charAt(below(7))).append(blanks()).append(value());
        }
        return b.toString();
    }

    private String fact(int depth) {
        if (depth > 0 && once(4)) {
            return "[" + blanks() + test(depth - 1) + blanks() + "]";
        }
        if (depth > 0 && once(4)) {
            return "not " + fact(depth - 1);
        }
        return sum() + blanks() + SIGNS[below(5)] + blanks() + sum();
    }

    private String test(int depth) {
        StringBuilder b = new StringBuilder(fact(depth));
        while (once(3)) {
            b.append(once(2) ? " or " : " and ").append(fact(depth));
        }
        return b.toString();
    }

    private String ruleText() {
        StringBuilder b = new StringBuilder();
        int clauses = 1 + below(once(8) ? 14 : 4);
        for (int i = 0; i < clauses; i++) {
            b.append(i > 0 ? ";" : "").append(blanks()).append("claim ").append(once(2) ? "1" : sum());
            if (!once(4)) {
                b.append(" if ").append(test(once(5) ? 12 : 2));
            }
        }
        return b.toString();
    }

    /** Some bytes put in, left out or changed, or a piece told twice. */
    private String spoiled(String text) {
        StringBuilder b = new StringBuilder(text);
        String signs = " ;[]<>=+-*/%0123456789abcdefghijklmnopqrstuvwxyzZ(\u0000\u00e9\u00ff@`{:,";
        for (int i = below(4); i >= 0 && b.length() > 0; i--) {
            int at = below(b.length());
            switch (below(6)) {
                case 0 -> b.deleteCharAt(at);
                case 1 -> b.setCharAt(at, signs.charAt(below(signs.length())));
                case 2 -> b.insert(at, signs.charAt(below(signs.length())));
                case 3 -> b.setLength(at);
                case 4 -> b.insert(at, b.substring(at, Math.min(b.length(), at + 1 + below(30))));
                default -> b.insert(at, new String[] {" not ", "[", "]", " and ", " or ", ";", " if ", "claim ", "1", " 123456 ",
                    "village 3", ";person 0 0 0", ";letter 1"}[below(13)]);
            }
        }
        return b.toString();
    }

    private void tape(String text) {
        String fitting = text.length() > 400 ? text.substring(0, 400) : text;
        Due.tape(x, fitting);
        m.end(0);
        m.tape = Due.bytes(fitting);
    }

    private int tellVillage(String text) {
        tape(text);
        int answer = m.village();
        same("village() of " + text, x.village(), answer);
        return answer;
    }

    private int tellRule(String text) {
        tape(text);
        int answer = m.rule();
        same("rule() of " + text, x.rule(), answer);
        return answer;
    }

    private void same(String call, int got, int due) {
        calls++;
        Due.is(run + ", call " + calls + ", " + call, got, due);
    }

    private void faults() {
        DoorLetters y = new DoorLetters();
        for (int i = 0; i < 40; i++) {
            String village = villageText(below(9), below(12), 1 + below(8));
            tellVillage(once(4) ? village : spoiled(village));
            if (m.rules.size() == 6) {
                m.rules.clear();
                y = new DoorLetters();
            }
            String rule = ruleText();
            String text = once(4) ? rule : spoiled(rule);
            String fitting = text.length() > 400 ? text.substring(0, 400) : text;
            Due.tape(y, fitting);
            m.tape = Due.bytes(fitting);
            same("rule() of " + fitting, y.rule(), m.rule());
        }
    }

    // ---- days

    private void days() {
        for (int i = below(4); i > 0; i--) {
            tellRule(ruleText());
        }
        newVillage();
        int all = 60 + below(340);
        for (int i = 0; i < all && Due.wrongSoFar() == 0; i++) {
            if (once(60)) {
                newVillage();
            }
            if (once(3)) {
                act();
            } else {
                ask();
            }
            if (once(10)) {
                counts();
            }
        }
    }

    private void newVillage() {
        int people = once(8) ? below(8) : below(5);
        int letters = once(8) ? below(11) : below(6);
        String text = villageText(people, letters, once(3) ? 1 + below(8) : 1 + below(3));
        tellVillage(text.length() > 400 ? "village 3;person 1 2 3;letter 5" : text);
        if (once(2)) {
            int rule = below(4) - 1;
            same("force", x.force(rule), m.force(rule));
        }
    }

    /** Mostly below n, sometimes beside it, or far from it. */
    private int about(int n) {
        if (once(20)) {
            return new int[] {-1, -2, n, n + 1, Integer.MAX_VALUE, Integer.MIN_VALUE, 31, 32}[below(8)];
        }
        return n > 0 ? below(n) : 0;
    }

    private int aPerson() {
        return about(m.count(1));
    }

    private int aLetter() {
        return about(m.count(2));
    }

    private void act() {
        int p = aPerson();
        int q = about(8);
        int l = aLetter();
        int k = about(4);
        switch (below(16)) {
            case 0, 1, 2, 3 -> same("day()", x.day(), m.day());
            case 4 -> same("begin " + p, x.begin(p), m.begin(p));
            case 5 -> same("live " + p + " " + q, x.live(p, q), m.live(p, q));
            case 6 -> same("give " + l + " " + p, x.give(l, p), m.give(l, p));
            case 7 -> same("hush " + p, x.hush(p), m.hush(p));
            case 8 -> same("undo", x.undo(), m.undo());
            case 9 -> same("image " + k, x.image(k), m.image(k));
            case 10 -> same("back " + k, x.back(k), m.back(k));
            case 11 -> same("force " + (k - 1), x.force(k - 1), m.force(k - 1));
            case 12 -> {
                int seed = once(3) ? about(1000) : random.nextInt();
                same("seed " + seed, x.seed(seed), m.seed(seed));
            }
            case 13 -> {
                if (once(4)) {
                    tellRule(ruleText());
                }
            }
            default -> tellNote();
        }
    }

    /** Mostly what is so by the text, so that NOTES leave something. */
    private void tellNote() {
        if (once(6)) {
            int p = aPerson();
            same("note NONE " + p, x.note(-1, p), m.note(-1, p));
            return;
        }
        int n = about(once(3) ? 61 : 9);
        int p = once(4) ? -1 : aPerson();
        if (!once(6) && m.count(0) > 0 && n >= 0 && n <= 60) {
            Model.Village v = m.s.told.copy();
            for (int i = 0; i <= n; i++) {
                p = Model.passDay(v, m.inForce(), 0);
            }
        }
        same("note " + n + " " + p, x.note(n, p), m.note(n, p));
    }

    private void ask() {
        int p = aPerson();
        int q = aPerson();
        int l = aLetter();
        int w = about(2);
        int people = about(1 << m.count(1));
        switch (below(26)) {
            case 0 -> same("person", x.person(p, about4(w)), m.person(p, about4(w)));
            case 1 -> same("letter", x.letter(l, w), m.letter(l, w));
            case 2 -> same("fits", x.fits(p, l, about4(w)), m.fits(p, l, about4(w)));
            case 3 -> same("whose " + l + " " + w, x.whose(l, w), m.whose(l, w));
            case 4 -> same("ask " + people + " " + w, x.ask(people, w), m.ask(people, w));
            case 5 -> same("know " + w, x.know(w), m.know(w));
            case 6 -> {
                if (m.count(1) <= 4 || m.count(2) <= 5 || once(10)) {
                    for (int i = -3; i < 8; i++) {
                        same("pairs " + i, x.pairs(i), m.pairs(i));
                    }
                }
            }
            case 7 -> {
                if (m.count(1) <= 4 || m.count(2) <= 5 || once(10)) {
                    same("best", x.best(), m.best());
                }
            }
            case 8 -> same("way " + l + " " + w, x.way(l, w), m.way(l, w));
            case 9 -> {
                int set = about(1 << m.count(0));
                same("join " + set + " " + w, x.join(set, w), m.join(set, w));
            }
            case 10 -> {
                for (int i = -1; i < 4; i++) {
                    same("rests " + p + " " + q + " " + l + " " + i, x.rests(p, q, l, i), m.rests(p, q, l, i));
                }
            }
            case 11, 12 -> {
                int n = about(101);
                for (int i = -1; i < 4; i++) {
                    same("ahead " + p + " " + n + " " + i, x.ahead(p, n, i), m.ahead(p, n, i));
                }
            }
            case 13 -> same("first " + p, x.first(p), m.first(p));
            case 14 -> same("nobody", x.nobody(), m.nobody());
            case 15 -> {
                int n = 1 + about(100);
                same("often " + n + " " + w, x.often(n, w), m.often(n, w));
            }
            case 16, 17 -> {
                int n = 1 + about(40);
                same("start " + n + " " + w, x.start(n, w), m.start(n, w));
            }
            case 18 -> same("lives " + p + " " + w, x.lives(p, w), m.lives(p, w));
            case 19 -> same("writes " + l + " " + w, x.writes(l, w), m.writes(l, w));
            case 20 -> same("alike " + w, x.alike(w), m.alike(w));
            case 21 -> {
                int much = about(10000);
                same("pence " + much + " " + p, x.pence(much, p), m.pence(much, p));
            }
            case 22 -> same("ruled " + w, x.ruled(w), m.ruled(w));
            case 23 -> same("look " + w, x.look(w), m.look(w));
            default -> {
                int times = 1 + about(10);
                int n = 1 + about(60);
                int chance = once(3) ? 100 : about(101);
                same("rains " + times + " " + n + " " + chance + " " + w, x.rains(times, n, chance, w),
                    m.rains(times, n, chance, w));
            }
        }
    }

    private static int about4(int w) {
        return w == 0 || w == 1 ? w : w & 3;
    }

    private void counts() {
        for (int i = -1; i < 15; i++) {
            same("count " + i, x.count(i), m.count(i));
        }
        for (int p = -1; p < 8; p++) {
            for (int what = -1; what < 5; what++) {
                same("person " + p + " " + what, x.person(p, what), m.person(p, what));
            }
        }
        for (int l = -1; l < 11; l++) {
            for (int what = -1; what < 3; what++) {
                same("letter " + l + " " + what, x.letter(l, what), m.letter(l, what));
            }
            for (int p = 0; p < 7; p++) {
                for (int what = -1; what < 4; what++) {
                    same("fits " + p + " " + l + " " + what, x.fits(p, l, what), m.fits(p, l, what));
                }
            }
        }
    }
}
