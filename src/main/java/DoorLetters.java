import java.util.Arrays;

/**
 * Letters without a name go from door to door of a village till they are somebody's.
 * What every call does is told by the promises of ../shared/DOC.md; words in capitals are its terms.
 */
public final class DoorLetters {
    public static final int NONE = -1;

    private static final int NOTHING = -2;
    private static final int UNASKABLE = -3;
    private static final int MOST_MATTERS = 8;
    private static final int MOST_PEOPLE = 7;
    private static final int MOST_LETTERS = 10;
    private static final int MOST_RULES = 6;
    private static final int MOST_NOTES = 10;
    private static final int MOST_UNDONE = 20;
    private static final int MOST_IMAGES = 4;
    private static final int MOST_BYTES = 400;
    private static final int MOST_SHAME = 30;
    private static final int MOST_HAD = 999;
    private static final int LAST_DAY_BY_HAND = 999;
    private static final int LAST_NOTED_DAY = 60;
    private static final int MOST_PENCE = 9999;
    private static final int MOST_DAYS_AHEAD = 100;
    private static final int MOST_DAYS_BEGUN = 40;
    private static final int MOST_RAINS = 10;
    private static final int MOST_RAINY_DAYS = 60;
    private static final int SURE_RAIN = 100;

    private final Text tape = new Text();
    private final VillageReader villageReader = new VillageReader();
    private final RuleReader ruleReader = new RuleReader();
    private final Rule[] rules = new Rule[MOST_RULES];
    private int ruleCount = 0;
    private final State state = new State();
    private final State[] images = new State[MOST_IMAGES];
    private final Walk walk = new Walk();
    private final Present present = new Present();
    private final Future future = new Future();
    private final Past past = new Past();

    public DoorLetters() {
    }

    // ---- told

    public int feed(int a, int b, int c, int d, int e) {
        if (tape.length + 20 > MOST_BYTES) {
            return NONE;
        }
        tape.append(a);
        tape.append(b);
        tape.append(c);
        tape.append(d);
        tape.append(e);
        return tape.length;
    }

    public int end(int n) {
        if (n < 0 || n > tape.length) {
            return NONE;
        }
        tape.length = n;
        return n;
    }

    public int village() {
        int fault = villageReader.read(tape);
        tape.length = 0;
        if (fault > 0) {
            return -2 - fault;
        }
        state.settle(villageReader.told);
        return state.told.people;
    }

    public int rule() {
        if (ruleCount >= rules.length) {
            return NONE;
        }
        int fault = ruleReader.read(tape);
        tape.length = 0;
        if (fault > 0) {
            return -2 - fault;
        }
        rules[ruleCount] = ruleReader.made();
        ruleCount++;
        return ruleCount - 1;
    }

    public int force(int rule) {
        if (!isWithin(rule, NONE, ruleCount - 1)) {
            return NOTHING;
        }
        int before = state.force;
        state.force = rule;
        return before;
    }

    // ---- looked at

    public int person(int person, int what) {
        if (!isPerson(person)) {
            return NONE;
        }
        Moment now = state.now;
        switch (what) {
            case 0: return now.lived[person];
            case 1: return now.pride[person];
            case 2: return now.shame[person];
            case 3: return now.has[person];
            default: return NONE;
        }
    }

    public int letter(int letter, int what) {
        if (!isLetter(letter)) {
            return NONE;
        }
        switch (what) {
            case 0: return state.told.claims[letter];
            case 1: return state.now.pinned >> letter & 1;
            default: return NONE;
        }
    }

    // ---- ACTS

    public int day() {
        if (!isVillage() || state.now.day >= LAST_DAY_BY_HAND) {
            return NONE;
        }
        state.remember();
        walk.go(state.told, state.now, ruleInForce());
        int claimer = walk.passDay(0);
        return claimer == NONE ? NOTHING : claimer;
    }

    public int begin(int person) {
        if (!isPerson(person) || person == state.now.begin) {
            return NONE;
        }
        state.remember();
        int before = state.now.begin;
        state.now.begin = person;
        return before;
    }

    public int live(int person, int matter) {
        if (!isPerson(person) || !isWithin(matter, 0, state.told.matters - 1)) {
            return NONE;
        }
        state.remember();
        state.now.lived[person] ^= 1 << matter;
        return state.now.lived[person];
    }

    public int give(int letter, int person) {
        if (!isLetter(letter) || !isPerson(person) || (state.now.pinned >> letter & 1) == 0) {
            return NONE;
        }
        state.remember();
        state.now.pinned &= ~(1 << letter);
        state.now.has[person] = Math.min(MOST_HAD, state.now.has[person] + 1);
        return state.now.has[person];
    }

    public int hush(int person) {
        if (!isPerson(person) || state.now.shame[person] == 0) {
            return NONE;
        }
        state.remember();
        int before = state.now.shame[person];
        state.now.shame[person] = 0;
        return before;
    }

    public int undo() {
        if (state.undoable == 0) {
            return NOTHING;
        }
        state.recall();
        return state.undoable;
    }

    // ---- asked AS ALL IS NOW

    public int fits(int person, int letter, int what) {
        if (!isPerson(person) || !isLetter(letter)) {
            return NONE;
        }
        int claims = state.told.claims[letter];
        switch (what) {
            case 0: return state.now.fitting(person, claims);
            case 1: return state.now.lacking(person, claims);
            case 2: return state.now.exceeding(person, claims);
            default: return NONE;
        }
    }

    public int whose(int letter, int what) {
        if (!isLetter(letter) || !isEither(what)) {
            return NONE;
        }
        int claims = state.told.claims[letter];
        return what == 0 ? present.fitted(state, claims) : present.nearest(state, claims);
    }

    public int ask(int people, int what) {
        if (!isWithin(people, 1, (1 << state.told.people) - 1) || !isEither(what)) {
            return UNASKABLE;
        }
        return present.questions(state, people, what);
    }

    public int know(int what) {
        if (!isVillage() || !isEither(what)) {
            return NONE;
        }
        int matters = present.telling(state);
        return what == 0 ? Integer.bitCount(matters) : matters;
    }

    public int pairs(int what) {
        if (!isVillage() || !isWithin(what, NONE, state.told.people - 1)) {
            return NOTHING;
        }
        return present.paired(state, what);
    }

    public int best() {
        return isVillage() ? present.bestGiven(state) : NONE;
    }

    public int way(int letter, int what) {
        if (!isLetter(letter) || !isEither(what)) {
            return NONE;
        }
        walk.go(state.told, state.now, ruleInForce());
        return walk.shortestWay(letter, what);
    }

    public int join(int matters, int what) {
        if (!isVillage() || !isWithin(matters, 0, (1 << state.told.matters) - 1) || !isEither(what)) {
            return NONE;
        }
        int letters = present.joined(state, matters);
        if (letters == 0) {
            return NOTHING;
        }
        return what == 0 ? Integer.bitCount(letters) : letters;
    }

    public int rests(int one, int other, int letter, int what) {
        if (!isPerson(one) || !isPerson(other) || one == other || !isLetter(letter)) {
            return NONE;
        }
        if (!isWithin(what, 0, 2)) {
            return NONE;
        }
        return present.rested(state, one, other, letter, what);
    }

    // ---- asked of how it goes on

    public int ahead(int person, int n, int what) {
        if (!isVillage() || !isWithin(n, 0, MOST_DAYS_AHEAD) || !isWithin(what, 0, 2)) {
            return NONE;
        }
        if (what != 2 && !isPerson(person)) {
            return NONE;
        }
        Moment then = future.after(state, ruleInForce(), n);
        switch (what) {
            case 0: return then.has[person];
            case 1: return then.shame[person];
            default: return then.pinned;
        }
    }

    public int first(int person) {
        return isPerson(person) ? future.firstBy(state, ruleInForce(), person) : NONE;
    }

    public int nobody() {
        return isVillage() ? future.firstBy(state, ruleInForce(), NONE) : NONE;
    }

    public int often(int n, int what) {
        if (!isVillage() || !isWithin(n, 1, MOST_DAYS_AHEAD) || !isEither(what)) {
            return NONE;
        }
        return future.mostOften(state, ruleInForce(), n, what);
    }

    public int start(int n, int what) {
        if (!isVillage() || !isWithin(n, 1, MOST_DAYS_BEGUN) || !isEither(what)) {
            return NONE;
        }
        return future.bestStart(state, ruleInForce(), n, what);
    }

    public int lives(int person, int what) {
        if (!isPerson(person) || !isEither(what)) {
            return NONE;
        }
        return past.possible(state, ruleInForce(), true, person, what);
    }

    public int writes(int letter, int what) {
        if (!isLetter(letter) || !isEither(what)) {
            return NONE;
        }
        return past.possible(state, ruleInForce(), false, letter, what);
    }

    public int alike(int what) {
        if (!isVillage() || !isEither(what)) {
            return NONE;
        }
        return future.firstAlike(state, ruleInForce(), what);
    }

    public int pence(int much, int person) {
        if (!isPerson(person) || !isWithin(much, 0, MOST_PENCE)) {
            return NONE;
        }
        return present.parted(state, much, person);
    }

    public int note(int n, int person) {
        if (n == NONE) {
            state.notes = 0;
            return 0;
        }
        if (!isVillage() || !isWithin(n, 0, LAST_NOTED_DAY) || state.notes >= MOST_NOTES) {
            return NOTHING;
        }
        if (person != NONE && !isPerson(person)) {
            return NOTHING;
        }
        state.noteDay[state.notes] = n;
        state.noteClaimer[state.notes] = person;
        state.notes++;
        return state.notes;
    }

    public int ruled(int what) {
        if (!isVillage() || !isEither(what)) {
            return UNASKABLE;
        }
        return past.ruling(state, rules, ruleCount, what);
    }

    public int look(int what) {
        if (!isVillage() || !isEither(what)) {
            return NONE;
        }
        return past.bestLook(state, rules, ruleCount, what);
    }

    public int seed(int x) {
        if (x < 0) {
            return NONE;
        }
        int before = state.x;
        state.x = x;
        return before;
    }

    public int rains(int m, int n, int p, int what) {
        if (!isVillage() || !isEither(what)) {
            return NONE;
        }
        if (!isWithin(m, 1, MOST_RAINS) || !isWithin(n, 1, MOST_RAINY_DAYS) || !isWithin(p, 0, SURE_RAIN)) {
            return NONE;
        }
        future.rain(state, ruleInForce(), m, n, p);
        return what == 0 ? future.rainClaimed : future.rainShame;
    }

    public int count(int what) {
        switch (what) {
            case 0: return state.told.matters;
            case 1: return state.told.people;
            case 2: return state.told.letters;
            case 3: return ruleCount;
            case 4: return state.force;
            case 5: return state.now.day;
            case 6: return state.now.begin;
            case 7: return state.now.pinned;
            case 8: return sumOf(state.now.has);
            case 9: return sumOf(state.now.shame);
            case 10: return state.notes;
            case 11: return state.undoable;
            case 12: return state.x;
            case 13: return tape.length;
            default: return NONE;
        }
    }

    // ---- IMAGES

    public int image(int k) {
        if (k < 0 || k >= images.length) {
            return NONE;
        }
        if (images[k] == null) {
            images[k] = new State();
        }
        images[k].become(state);
        return state.now.day;
    }

    public int back(int k) {
        if (k < 0 || k >= images.length || images[k] == null) {
            return NONE;
        }
        state.become(images[k]);
        return state.now.day;
    }

    private boolean isVillage() {
        return state.told.matters > 0;
    }

    private boolean isPerson(int person) {
        return isWithin(person, 0, state.told.people - 1);
    }

    private boolean isLetter(int letter) {
        return isWithin(letter, 0, state.told.letters - 1);
    }

    private static boolean isEither(int what) {
        return isWithin(what, 0, 1);
    }

    private static boolean isWithin(int number, int least, int most) {
        return number >= least && number <= most;
    }

    private Rule ruleInForce() {
        return state.force >= 0 && state.force < ruleCount ? rules[state.force] : null;
    }

    /** Rows hold 0 behind the last PERSON, so the whole row may be added. */
    private static int sumOf(int[] row) {
        int sum = 0;
        for (int number : row) {
            sum += number;
        }
        return sum;
    }

    /** The TAPE, and the token of it that is looked at; the first FAULT along it stays. */
    private static final class Text {
        static final int END = -1;
        /** The kinds of a NUMBER and a WORD; any other byte is its own kind. */
        static final int NUMBER = '0';
        static final int WORD = 'a';
        static final int AT_MOST = 256 + '<';
        static final int AT_LEAST = 256 + '>';

        static final int MISPLACED = 0;
        static final int MISTOLD = 1;
        static final int TOO_DEEP = 2;
        static final int TOO_MANY_PARTS = 3;
        static final int TOO_MANY = 4;
        private static final int MOST_DIGITS = 5;

        final byte[] bytes = new byte[MOST_BYTES];
        int length = 0;
        int fault = 0;
        int kind = END;
        private int from = 0;
        private int to = 0;
        private int number = 0;

        void append(int number) {
            for (int shift = 24; shift >= 0; shift -= 8) {
                if (length < bytes.length) {
                    bytes[length] = (byte) (number >> shift);
                    length++;
                }
            }
        }

        void open() {
            fault = 0;
            to = 0;
            next();
        }

        void next() {
            from = to;
            while (from < length && byteAt(from) == ' ') {
                from++;
            }
            kind = byteAt(from);
            to = from < length ? from + 1 : length;
            if (isDigit(kind)) {
                number = kind - '0';
                kind = NUMBER;
                while (to < length && isDigit(byteAt(to))) {
                    // digits too many are a FAULT, whatever they come to
                    if (to - from < MOST_DIGITS) {
                        number = number * 10 + byteAt(to) - '0';
                    }
                    to++;
                }
            } else if (isSmallLetter(kind)) {
                kind = WORD;
                while (to < length && isSmallLetter(byteAt(to))) {
                    to++;
                }
            } else if ((kind == '<' || kind == '>') && byteAt(to) == '=') {
                kind += 256;
                to++;
            }
        }

        private int byteAt(int at) {
            return at >= 0 && at < length && at < bytes.length ? bytes[at] & 255 : END;
        }

        boolean isWord(String word) {
            int size = word.length();
            if (kind != WORD || to - from != size) {
                return false;
            }
            for (int i = 0; i < size; i++) {
                if (byteAt(from + i) != word.charAt(i)) {
                    return false;
                }
            }
            return true;
        }

        /** The NUMBER that is looked at; the least one, and a FAULT, if there is none such. */
        int numberWithin(int least, int most) {
            if (kind != NUMBER) {
                fail(MISPLACED);
                return least;
            }
            if (to - from > MOST_DIGITS || number < least || number > most) {
                fail(MISTOLD);
                return least;
            }
            return number;
        }

        void fail(int fault) {
            if (this.fault == 0) {
                this.fault = 1 + 8 * from + fault;
            }
        }

        private static boolean isDigit(int sign) {
            return sign >= '0' && sign <= '9';
        }

        private static boolean isSmallLetter(int sign) {
            return sign >= 'a' && sign <= 'z';
        }
    }

    /** What the text of a VILLAGE told. */
    private static final class Told {
        int matters = 0;
        int people = 0;
        int letters = 0;
        final int[] lived = new int[MOST_PEOPLE];
        final int[] pride = new int[MOST_PEOPLE];
        final int[] shame = new int[MOST_PEOPLE];
        final int[] claims = new int[MOST_LETTERS];

        void clear() {
            matters = 0;
            people = 0;
            letters = 0;
            Arrays.fill(lived, 0);
            Arrays.fill(pride, 0);
            Arrays.fill(shame, 0);
            Arrays.fill(claims, 0);
        }

        void become(Told other) {
            matters = other.matters;
            people = other.people;
            letters = other.letters;
            System.arraycopy(other.lived, 0, lived, 0, MOST_PEOPLE);
            System.arraycopy(other.pride, 0, pride, 0, MOST_PEOPLE);
            System.arraycopy(other.shame, 0, shame, 0, MOST_PEOPLE);
            System.arraycopy(other.claims, 0, claims, 0, MOST_LETTERS);
        }
    }

    /** Reads a VILLAGE into a draft of its own, so that one with a FAULT changes nothing. */
    private static final class VillageReader {
        private static final int MOST_CLAUSES = 40;
        private static final int MOST_PRIDE = 9;
        private static final int MOST_SHAME_TOLD = 9;

        final Told told = new Told();
        private int clauses = 0;

        /** The FAULT, or 0. */
        int read(Text text) {
            told.clear();
            clauses = 0;
            text.open();
            boolean isMore = true;
            for (int i = 0; i <= MOST_CLAUSES && isMore && text.fault == 0; i++) {
                readClause(text);
                isMore = text.kind != Text.END;
                if (isMore && text.kind != ';') {
                    text.fail(Text.MISPLACED);
                }
                text.next();
            }
            return text.fault;
        }

        private void readClause(Text text) {
            boolean isVillage = text.isWord("village");
            boolean isPerson = text.isWord("person");
            boolean isLetter = text.isWord("letter");
            if (!isVillage && !isPerson && !isLetter) {
                text.fail(Text.MISPLACED);
            } else if (isVillage != (clauses == 0) || clauses >= MOST_CLAUSES) {
                text.fail(Text.TOO_MANY);
            } else if (isVillage) {
                text.next();
                told.matters = takeNumber(text, 1, MOST_MATTERS);
            } else if (isPerson) {
                readPerson(text);
            } else {
                readLetter(text);
            }
            clauses++;
        }

        private void readPerson(Text text) {
            int person = told.people;
            if (person < 0 || person >= MOST_PEOPLE) {
                text.fail(Text.TOO_MANY);
                return;
            }
            text.next();
            told.lived[person] = takeNumber(text, 0, (1 << told.matters) - 1);
            told.pride[person] = takeNumber(text, 0, MOST_PRIDE);
            told.shame[person] = takeNumber(text, 0, MOST_SHAME_TOLD);
            told.people++;
        }

        private void readLetter(Text text) {
            int letter = told.letters;
            if (letter < 0 || letter >= MOST_LETTERS) {
                text.fail(Text.TOO_MANY);
                return;
            }
            text.next();
            told.claims[letter] = takeNumber(text, 0, (1 << told.matters) - 1);
            told.letters++;
        }

        private static int takeNumber(Text text, int least, int most) {
            int number = text.numberWithin(least, most);
            text.next();
            return number;
        }
    }

    /** A RULE as code for a machine with a stack: an operation and, above it, its number or WORD. */
    private static final class Rule {
        static final int NUMBER = 0;
        static final int WORD = 1;
        static final int PLUS = 2;
        static final int MINUS = 3;
        static final int TIMES = 4;
        static final int OVER = 5;
        static final int REST = 6;
        static final int BELOW = 7;
        static final int AT_MOST = 8;
        static final int EQUAL = 9;
        static final int AT_LEAST = 10;
        static final int ABOVE = 11;
        static final int AND = 12;
        static final int OR = 13;
        static final int NOT = 14;
        static final int CLAIM = 15;
        static final int CLAIM_IF = 16;
        static final int OPERATION_BITS = 5;

        private final int[] code;
        /** Two for each of ten levels of TESTS, four for a FACT: no text needs more. */
        private final long[] stack = new long[64];

        Rule(int[] code) {
            this.code = code;
        }

        /** The SUM of the first CLAUSE that holds for these values of the WORDS, 0 without. */
        long claimed(long[] words) {
            int height = 0;
            for (int i = 0; i < code.length; i++) {
                int operation = code[i] & (1 << OPERATION_BITS) - 1;
                int operand = code[i] >> OPERATION_BITS;
                if (operation <= WORD) {
                    if (height >= stack.length || operand < 0 || operation == WORD && operand >= words.length) {
                        return 0;
                    }
                    stack[height] = operation == NUMBER ? operand : words[operand];
                    height++;
                } else if (height < 1) {
                    return 0;
                } else if (operation == NOT) {
                    stack[height - 1] = 1 - stack[height - 1];
                } else if (operation == CLAIM || operation == CLAIM_IF) {
                    if (operation == CLAIM || stack[height - 1] != 0) {
                        return stack[0];
                    }
                    height = 0;
                } else if (height < 2) {
                    return 0;
                } else {
                    height--;
                    stack[height - 1] = combined(operation, stack[height - 1], stack[height]);
                }
            }
            return 0;
        }

        private static long combined(int operation, long a, long b) {
            switch (operation) {
                case PLUS: return a + b;
                case MINUS: return a - b;
                case TIMES: return a * b;
                case OVER: return b == 0 ? 0 : a / b;
                case REST: return b == 0 ? 0 : a % b;
                case BELOW: return a < b ? 1 : 0;
                case AT_MOST: return a <= b ? 1 : 0;
                case EQUAL: return a == b ? 1 : 0;
                case AT_LEAST: return a >= b ? 1 : 0;
                case ABOVE: return a > b ? 1 : 0;
                case AND: return a & b;
                case OR: return a | b;
                default: return 0;
            }
        }
    }

    /** Reads a RULE token by token; operations wait till all that they join is written. */
    private static final class RuleReader {
        private static final int MOST_CLAUSES = 12;
        private static final int MOST_PARTS = 60;
        private static final int MOST_DEPTH = 10;
        private static final int LARGEST_NUMBER = 99999;
        /** What is due next; where no NUMBER tells it, all is read. */
        private static final int CLAUSE_DUE = 0;
        private static final int FACT_DUE = 1;
        private static final int VALUE_DUE = 2;
        private static final int JOINT_DUE = 3;
        private static final int NOTHING_DUE = 4;
        /** Where what is read last stands: in the SUM that CLAIMS, in a SUM of a FACT, or as a ] behind a TEST. */
        private static final int CLAIMING = 0;
        private static final int LEFT = 1;
        private static final int RIGHT = 2;
        private static final int CLOSED = 3;
        /** A [ waits among the operations. */
        private static final int BRACKET = Rule.CLAIM_IF + 1;

        /** Each operation has a byte of its own in the text, or stands at the end of a CLAUSE. */
        private final int[] code = new int[MOST_BYTES + MOST_CLAUSES];
        /** On each of the levels of depth an or, an and, and what opens the next. */
        private final int[] waiting = new int[64];
        private int size = 0;
        private int held = 0;
        private int clauses = 0;
        private int parts = 0;
        private int depth = 0;
        private int due = CLAUSE_DUE;
        private int stage = CLAIMING;

        /** The FAULT, or 0. */
        int read(Text text) {
            size = 0;
            held = 0;
            clauses = 0;
            parts = 0;
            depth = 0;
            due = CLAUSE_DUE;
            text.open();
            for (int i = 0; i <= MOST_BYTES && due != NOTHING_DUE && text.fault == 0; i++) {
                switch (due) {
                    case CLAUSE_DUE:
                        readClaim(text);
                        break;
                    case FACT_DUE:
                        readFactBegin(text);
                        break;
                    case VALUE_DUE:
                        readValue(text);
                        break;
                    default:
                        readJoint(text);
                        break;
                }
                text.next();
            }
            return text.fault;
        }

        Rule made() {
            return new Rule(Arrays.copyOf(code, size));
        }

        private void readClaim(Text text) {
            if (!text.isWord("claim")) {
                text.fail(Text.MISPLACED);
            } else if (clauses >= MOST_CLAUSES) {
                text.fail(Text.TOO_MANY);
            }
            clauses++;
            stage = CLAIMING;
            due = VALUE_DUE;
        }

        private void readFactBegin(Text text) {
            boolean isBracket = text.kind == '[';
            if (!isBracket && !text.isWord("not")) {
                stage = LEFT;
                readValue(text);
                return;
            }
            if (depth >= MOST_DEPTH) {
                text.fail(Text.TOO_DEEP);
            }
            depth++;
            hold(isBracket ? BRACKET : Rule.NOT);
        }

        private void readValue(Text text) {
            boolean isNumber = text.kind == Text.NUMBER;
            int operand = isNumber ? text.numberWithin(0, LARGEST_NUMBER) : wordOf(text);
            if (operand == NONE) {
                text.fail(Text.MISPLACED);
                return;
            }
            countPart(text);
            write((isNumber ? Rule.NUMBER : Rule.WORD) | operand << Rule.OPERATION_BITS);
            due = JOINT_DUE;
        }

        /** Behind a VALUE or a ]. */
        private void readJoint(Text text) {
            int operation = stage == CLOSED ? NONE : operationOf(text.kind);
            if (operation != NONE) {
                joinBy(operation, VALUE_DUE);
            } else if (stage == CLAIMING) {
                if (text.isWord("if")) {
                    settle(levelOf(Rule.OR));
                    due = FACT_DUE;
                } else {
                    endClause(text, Rule.CLAIM);
                }
            } else if (stage == LEFT) {
                readSign(text);
            } else {
                readBehindFact(text);
            }
        }

        private void readSign(Text text) {
            int sign = signOf(text.kind);
            if (sign == NONE) {
                text.fail(Text.MISPLACED);
                return;
            }
            countPart(text);
            joinBy(sign, VALUE_DUE);
            stage = RIGHT;
        }

        private void readBehindFact(Text text) {
            if (text.isWord("and")) {
                joinBy(Rule.AND, FACT_DUE);
            } else if (text.isWord("or")) {
                joinBy(Rule.OR, FACT_DUE);
            } else {
                settle(levelOf(Rule.OR));
                if (held == 0) {
                    endClause(text, Rule.CLAIM_IF);
                } else if (text.kind == ']') {
                    held--;
                    depth--;
                    stage = CLOSED;
                } else {
                    text.fail(Text.MISPLACED);
                }
            }
        }

        private void endClause(Text text, int operation) {
            settle(levelOf(Rule.OR));
            write(operation);
            if (text.kind != Text.END && text.kind != ';') {
                text.fail(Text.MISPLACED);
            }
            due = text.kind == Text.END ? NOTHING_DUE : CLAUSE_DUE;
        }

        private void countPart(Text text) {
            if (parts >= MOST_PARTS) {
                text.fail(Text.TOO_MANY_PARTS);
            }
            parts++;
        }

        private void joinBy(int operation, int dueNext) {
            settle(levelOf(operation));
            hold(operation);
            due = dueNext;
        }

        /** Writes what waits, down to the last [, and joins as firmly as this level or more. */
        private void settle(int level) {
            while (held > 0 && held <= waiting.length && levelOf(waiting[held - 1]) >= level) {
                held--;
                if (waiting[held] == Rule.NOT) {
                    depth--;
                }
                write(waiting[held]);
            }
        }

        private void hold(int operation) {
            if (held < waiting.length) {
                waiting[held] = operation;
                held++;
            }
        }

        private void write(int operation) {
            if (size < code.length) {
                code[size] = operation;
                size++;
            }
        }

        private static int levelOf(int operation) {
            switch (operation) {
                case BRACKET: return 0;
                case Rule.OR: return 1;
                case Rule.AND: return 2;
                case Rule.NOT: return 3;
                case Rule.PLUS: case Rule.MINUS: return 5;
                case Rule.TIMES: case Rule.OVER: case Rule.REST: return 6;
                default: return 4;
            }
        }

        private static int operationOf(int kind) {
            switch (kind) {
                case '+': return Rule.PLUS;
                case '-': return Rule.MINUS;
                case '*': return Rule.TIMES;
                case '/': return Rule.OVER;
                case '%': return Rule.REST;
                default: return NONE;
            }
        }

        private static int signOf(int kind) {
            switch (kind) {
                case '<': return Rule.BELOW;
                case Text.AT_MOST: return Rule.AT_MOST;
                case '=': return Rule.EQUAL;
                case Text.AT_LEAST: return Rule.AT_LEAST;
                case '>': return Rule.ABOVE;
                default: return NONE;
            }
        }

        private static int wordOf(Text text) {
            for (int word = 0; word < Walk.WORDS; word++) {
                if (text.isWord(nameOf(word))) {
                    return word;
                }
            }
            return NONE;
        }

        private static String nameOf(int word) {
            switch (word) {
                case Walk.PERSON: return "person";
                case Walk.FITS: return "fits";
                case Walk.LACKS: return "lacks";
                case Walk.BEYOND: return "beyond";
                case Walk.PRIDE: return "pride";
                case Walk.SHAME: return "shame";
                case Walk.SEEN: return "seen";
                case Walk.HAS: return "has";
                case Walk.LETTER: return "letter";
                default: return "day";
            }
        }
    }

    /** What ACTS change. */
    private static final class Moment {
        static final int SIZE = 4 * MOST_PEOPLE + 3;

        final int[] lived = new int[MOST_PEOPLE];
        final int[] pride = new int[MOST_PEOPLE];
        final int[] shame = new int[MOST_PEOPLE];
        final int[] has = new int[MOST_PEOPLE];
        int pinned = 0;
        int day = 0;
        int begin = 0;

        int fitting(int person, int claims) {
            return Integer.bitCount(claims & lived[person]);
        }

        int lacking(int person, int claims) {
            return Integer.bitCount(claims & ~lived[person]);
        }

        int exceeding(int person, int claims) {
            return Integer.bitCount(lived[person] & ~claims);
        }

        void become(Moment other) {
            System.arraycopy(other.lived, 0, lived, 0, MOST_PEOPLE);
            System.arraycopy(other.pride, 0, pride, 0, MOST_PEOPLE);
            System.arraycopy(other.shame, 0, shame, 0, MOST_PEOPLE);
            System.arraycopy(other.has, 0, has, 0, MOST_PEOPLE);
            pinned = other.pinned;
            day = other.day;
            begin = other.begin;
        }

        void becomeBegin(Told told) {
            System.arraycopy(told.lived, 0, lived, 0, MOST_PEOPLE);
            System.arraycopy(told.pride, 0, pride, 0, MOST_PEOPLE);
            System.arraycopy(told.shame, 0, shame, 0, MOST_PEOPLE);
            Arrays.fill(has, 0);
            pinned = 0;
            day = 0;
            begin = 0;
        }

        void writeTo(int[] row, int at) {
            if (at < 0 || at + SIZE > row.length) {
                return;
            }
            System.arraycopy(lived, 0, row, at, MOST_PEOPLE);
            System.arraycopy(pride, 0, row, at + MOST_PEOPLE, MOST_PEOPLE);
            System.arraycopy(shame, 0, row, at + 2 * MOST_PEOPLE, MOST_PEOPLE);
            System.arraycopy(has, 0, row, at + 3 * MOST_PEOPLE, MOST_PEOPLE);
            row[at + 4 * MOST_PEOPLE] = pinned;
            row[at + 4 * MOST_PEOPLE + 1] = day;
            row[at + 4 * MOST_PEOPLE + 2] = begin;
        }

        void readFrom(int[] row, int at) {
            if (at < 0 || at + SIZE > row.length) {
                return;
            }
            System.arraycopy(row, at, lived, 0, MOST_PEOPLE);
            System.arraycopy(row, at + MOST_PEOPLE, pride, 0, MOST_PEOPLE);
            System.arraycopy(row, at + 2 * MOST_PEOPLE, shame, 0, MOST_PEOPLE);
            System.arraycopy(row, at + 3 * MOST_PEOPLE, has, 0, MOST_PEOPLE);
            pinned = row[at + 4 * MOST_PEOPLE];
            day = row[at + 4 * MOST_PEOPLE + 1];
            begin = row[at + 4 * MOST_PEOPLE + 2];
        }

        /** PRIDE needs four bits, SHAME five: those of seven PEOPLE stand in one long. */
        long feelings() {
            long packed = 0;
            for (int p = 0; p < MOST_PEOPLE; p++) {
                packed = packed << 9 | pride[p] << 5 | shame[p];
            }
            return packed;
        }
    }

    /** All that an IMAGE keeps. */
    private static final class State {
        final Told told = new Told();
        final Moment now = new Moment();
        /** The moments ahead of the last ACTS, one behind the other, the oldest overwritten. */
        private final int[] before = new int[MOST_UNDONE * Moment.SIZE];
        private int slot = 0;
        int undoable = 0;
        final int[] noteDay = new int[MOST_NOTES];
        final int[] noteClaimer = new int[MOST_NOTES];
        int notes = 0;
        int force = NONE;
        int x = 0;

        void become(State other) {
            told.become(other.told);
            now.become(other.now);
            System.arraycopy(other.before, 0, before, 0, MOST_UNDONE * Moment.SIZE);
            slot = other.slot;
            undoable = other.undoable;
            System.arraycopy(other.noteDay, 0, noteDay, 0, MOST_NOTES);
            System.arraycopy(other.noteClaimer, 0, noteClaimer, 0, MOST_NOTES);
            notes = other.notes;
            force = other.force;
            x = other.x;
        }

        /** The RULE IN FORCE and x outlast a VILLAGE. */
        void settle(Told draft) {
            told.become(draft);
            now.becomeBegin(told);
            slot = 0;
            undoable = 0;
            notes = 0;
        }

        void remember() {
            now.writeTo(before, slot * Moment.SIZE);
            slot = slot + 1 < MOST_UNDONE ? slot + 1 : 0;
            undoable = Math.min(MOST_UNDONE, undoable + 1);
        }

        void recall() {
            slot = slot > 0 ? slot - 1 : MOST_UNDONE - 1;
            undoable--;
            now.readFrom(before, slot * Moment.SIZE);
        }
    }

    /** Takes LETTERS from door to door; changes the moment that it was told to go on in. */
    private static final class Walk {
        static final int PERSON = 0;
        static final int FITS = 1;
        static final int LACKS = 2;
        static final int BEYOND = 3;
        static final int PRIDE = 4;
        static final int SHAME = 5;
        static final int SEEN = 6;
        static final int HAS = 7;
        static final int LETTER = 8;
        static final int DAY = 9;
        static final int WORDS = 10;

        private final long[] words = new long[WORDS];
        private Told told = new Told();
        private Moment moment = new Moment();
        private Rule rule = null;

        void go(Told told, Moment moment, Rule rule) {
            this.told = told;
            this.moment = moment;
            this.rule = rule;
        }

        int letterOfDay() {
            return told.letters > 0 ? moment.day % told.letters : NONE;
        }

        /** A DAY: who CLAIMS its LETTER, whose CLAIMS are other than told in the MATTERS of the rain. */
        int passDay(int rain) {
            int letter = letterOfDay();
            if (letter < 0 || letter >= MOST_LETTERS) {
                moment.day++;
                return NONE;
            }
            int claims = told.claims[letter] ^ rain;
            int reader = moment.begin;
            for (int seen = 0; seen < told.people && reader >= 0 && reader < MOST_PEOPLE; seen++) {
                if (wouldClaim(reader, letter, claims, seen)) {
                    hand(reader, claims);
                    moment.day++;
                    return reader;
                }
                if ((claims & ~moment.lived[reader]) == 0 && moment.pride[reader] > 0) {
                    moment.pride[reader]--;
                }
                reader = reader + 1 < told.people ? reader + 1 : 0;
            }
            moment.pinned |= 1 << letter;
            moment.day++;
            return NONE;
        }

        private void hand(int claimer, int claims) {
            int lacks = moment.lacking(claimer, claims);
            int shame = moment.shame[claimer];
            moment.has[claimer] = Math.min(MOST_HAD, moment.has[claimer] + 1);
            moment.shame[claimer] = lacks == 0 ? Math.max(0, shame - 1) : Math.min(MOST_SHAME, shame + lacks);
        }

        private boolean wouldClaim(int person, int letter, int claims, int seen) {
            int lived = moment.lived[person];
            if (rule == null) {
                return (claims & ~lived) == 0;
            }
            words[PERSON] = person;
            words[FITS] = Integer.bitCount(claims & lived);
            words[LACKS] = Integer.bitCount(claims & ~lived);
            words[BEYOND] = Integer.bitCount(lived & ~claims);
            words[PRIDE] = moment.pride[person];
            words[SHAME] = moment.shame[person];
            words[SEEN] = seen;
            words[HAS] = moment.has[person];
            words[LETTER] = letter;
            words[DAY] = moment.day;
            return rule.claimed(words) > 0;
        }

        /**
         * At the least place at which anybody at all would CLAIM it no order has ended earlier, so the others may
         * stand ahead as they like: they stand 0, 1, 2 and on, and a claimer with a lesser number than the place
         * is left out of these, the later the better.
         */
        int shortestWay(int letter, int what) {
            if (letter < 0 || letter >= MOST_LETTERS) {
                return NOTHING;
            }
            int claims = told.claims[letter];
            for (int seen = 0; seen < told.people; seen++) {
                int claimer = NONE;
                for (int p = 0; p < told.people && claimer < seen; p++) {
                    if (wouldClaim(p, letter, claims, seen)) {
                        claimer = p;
                    }
                }
                if (claimer != NONE) {
                    return what == 0 ? seen + 1 : claimer;
                }
            }
            return NOTHING;
        }
    }

    /** What is asked AS ALL IS NOW. */
    private static final class Present {
        private static final int SETS = 1 << MOST_PEOPLE;
        private static final int ENDLESS = 99;
        /** One for each LETTER and one for none. */
        private static final int DIGITS = MOST_LETTERS + 1;
        /** Above all numbers of seven such digits. */
        private static final long ONE_PAIR = 1 << 25;

        private final int[] asked = new int[SETS];
        private final long[] given = new long[SETS];
        /** What giving the LETTER at hand to each of the PEOPLE is worth. */
        private final long[] gains = new long[MOST_PEOPLE];
        private final int[] lost = new int[MOST_PEOPLE];

        int fitted(State s, int claims) {
            int people = 0;
            for (int p = 0; p < s.told.people; p++) {
                if (s.now.lacking(p, claims) == 0) {
                    people |= 1 << p;
                }
            }
            return people;
        }

        int nearest(State s, int claims) {
            int nearest = NOTHING;
            int least = 0;
            for (int p = 0; p < s.told.people; p++) {
                int far = s.now.lacking(p, claims) * (MOST_MATTERS + 1) + s.now.exceeding(p, claims);
                if (nearest == NOTHING || far < least) {
                    nearest = p;
                    least = far;
                }
            }
            return nearest;
        }

        /** Sets ascend, so the parts of each have been looked at ahead of it. */
        int questions(State s, int people, int what) {
            for (int set = 1; set <= people && set < SETS; set++) {
                if ((set & ~people) == 0) {
                    asked[set] = Integer.bitCount(set) == 1 ? 0 : fewestFor(s, set);
                }
            }
            int fewest = people > 0 && people < SETS ? asked[people] : ENDLESS;
            if (fewest >= ENDLESS) {
                return NOTHING;
            }
            if (what == 0) {
                return fewest;
            }
            for (int m = 0; m < s.told.matters; m++) {
                if (askedBy(s, people, m) == fewest) {
                    return m;
                }
            }
            return NONE;
        }

        private int fewestFor(State s, int set) {
            int fewest = ENDLESS;
            for (int m = 0; m < s.told.matters; m++) {
                fewest = Math.min(fewest, askedBy(s, set, m));
            }
            return fewest;
        }

        /** How many at worst, if this MATTER is asked first. */
        private int askedBy(State s, int set, int matter) {
            int yes = 0;
            for (int p = 0; p < s.told.people; p++) {
                yes |= (s.now.lived[p] >> matter & 1) << p;
            }
            yes &= set;
            int no = set & ~yes;
            if (yes == 0 || no == 0 || yes >= SETS || no >= SETS) {
                return ENDLESS;
            }
            return 1 + Math.max(asked[yes], asked[no]);
        }

        int telling(State s) {
            int all = (1 << s.told.matters) - 1;
            int found = all;
            for (int set = 0; set < all; set++) {
                if (Integer.bitCount(set) < Integer.bitCount(found) && tells(s, set)) {
                    found = set;
                }
            }
            return found;
        }

        private boolean tells(State s, int set) {
            for (int p = 0; p < s.told.people; p++) {
                for (int q = 0; q < p; q++) {
                    int unlike = s.now.lived[p] ^ s.now.lived[q];
                    if (unlike != 0 && (unlike & set) == 0) {
                        return false;
                    }
                }
            }
            return true;
        }

        /**
         * A way to give is a number: how many pairs, then a digit for each PERSON, the first the highest, that is
         * the higher the lesser the LETTER; so the greatest number is the way that is asked for.
         */
        int paired(State s, int what) {
            long most = mostGiven(s, true);
            if (what == NONE) {
                return (int) (most / ONE_PAIR);
            }
            long digits = most % ONE_PAIR;
            for (int p = what + 1; p < MOST_PEOPLE; p++) {
                digits /= DIGITS;
            }
            int digit = (int) (digits % DIGITS);
            return digit == 0 ? NONE : MOST_LETTERS - digit;
        }

        int bestGiven(State s) {
            return (int) mostGiven(s, false);
        }

        /** For each set of PEOPLE the most that the LETTERS so far can make among these. */
        private long mostGiven(State s, boolean isPairing) {
            int everyone = (1 << s.told.people) - 1;
            Arrays.fill(given, 0);
            for (int l = 0; l < s.told.letters; l++) {
                fillGains(s, l, isPairing);
                // downwards, so that what is taken from lesser sets doesn't have this LETTER yet
                for (int set = everyone; set > 0; set--) {
                    for (int p = 0; p < s.told.people; p++) {
                        if ((set >> p & 1) == 1) {
                            given[set] = Math.max(given[set], given[set & ~(1 << p)] + gains[p]);
                        }
                    }
                }
            }
            return given[everyone];
        }

        private void fillGains(State s, int letter, boolean isPairing) {
            int claims = s.told.claims[letter];
            long digit = MOST_LETTERS - letter;
            for (int p = MOST_PEOPLE - 1; p >= 0; p--) {
                int lacks = s.now.lacking(p, claims);
                if (!isPairing) {
                    gains[p] = s.now.fitting(p, claims) - lacks;
                } else {
                    gains[p] = lacks == 0 ? ONE_PAIR + digit : 0;
                }
                digit *= DIGITS;
            }
        }

        /** The set of LETTERS, 0 if there is none such. */
        int joined(State s, int matters) {
            int found = 0;
            for (int set = 1; set <= s.now.pinned; set++) {
                boolean isFewer = found == 0 || Integer.bitCount(set) < Integer.bitCount(found);
                if ((set & ~s.now.pinned) == 0 && isFewer && unionOf(s, set) == matters) {
                    found = set;
                }
            }
            return found;
        }

        private static int unionOf(State s, int letters) {
            int union = 0;
            for (int l = 0; l < s.told.letters; l++) {
                if ((letters >> l & 1) == 1) {
                    union |= s.told.claims[l];
                }
            }
            return union;
        }

        int rested(State s, int one, int other, int letter, int what) {
            int claims = letter >= 0 && letter < MOST_LETTERS ? s.told.claims[letter] : 0;
            int found = 0;
            int first = NOTHING;
            for (int twos = 0; twos < 4; twos++) {
                int a = twos >> 1;
                int b = twos & 1;
                if (gain(s, one, other, claims, a, b) >= gain(s, one, other, claims, 1 - a, b)
                    && gain(s, other, one, claims, b, a) >= gain(s, other, one, claims, 1 - b, a)) {
                    found++;
                    first = first == NOTHING ? twos : first;
                }
            }
            if (what == 0) {
                return found;
            }
            return first == NOTHING ? NOTHING : what == 1 ? first >> 1 : first & 1;
        }

        /** What a PERSON has who does this, while the other one does that. */
        private static int gain(State s, int person, int other, int claims, int does, int otherDoes) {
            if (does == 0) {
                return 0;
            }
            int lacks = s.now.lacking(person, claims);
            int worth = s.now.fitting(person, claims) - lacks;
            if (otherDoes == 0) {
                return worth + s.now.pride[person];
            }
            int otherLacks = s.now.lacking(other, claims);
            boolean isNearer = lacks < otherLacks || lacks == otherLacks && person < other;
            return isNearer ? worth : -s.now.shame[person] - 1;
        }

        int parted(State s, int much, int person) {
            int all = sumOf(s.now.has);
            if (all <= 0) {
                return 0;
            }
            int left = much;
            for (int p = 0; p < s.told.people; p++) {
                left -= much * s.now.has[p] / all;
                lost[p] = much * s.now.has[p] % all;
            }
            int ahead = 0;
            for (int p = 0; p < s.told.people; p++) {
                if (lost[p] > lost[person] || lost[p] == lost[person] && p < person) {
                    ahead++;
                }
            }
            return much * s.now.has[person] / all + (ahead < left ? 1 : 0);
        }
    }

    /** What is asked of how it goes on, told from a moment of its own. */
    private static final class Future {
        private static final int DAYS_LOOKED_AHEAD = 200;
        private static final int DAYS_ALIKE = 60;

        private final Walk walk = new Walk();
        private final Moment then = new Moment();
        private final int[] claimed = new int[MOST_PEOPLE];
        private final long[] feelings = new long[DAYS_ALIKE + 1];
        private final int[] boards = new int[DAYS_ALIKE + 1];
        private int x = 0;
        int rainClaimed = 0;
        int rainShame = 0;

        private void startOver(State s, Rule rule) {
            then.become(s.now);
            walk.go(s.told, then, rule);
        }

        Moment after(State s, Rule rule, int days) {
            startOver(s, rule);
            for (int d = 0; d < days; d++) {
                walk.passDay(0);
            }
            return then;
        }

        /** The first DAY on which this PERSON (NONE: nobody) CLAIMS. */
        int firstBy(State s, Rule rule, int claimer) {
            startOver(s, rule);
            for (int d = 0; d < DAYS_LOOKED_AHEAD; d++) {
                int day = then.day;
                if (walk.passDay(0) == claimer) {
                    return day;
                }
            }
            return NOTHING;
        }

        int mostOften(State s, Rule rule, int days, int what) {
            startOver(s, rule);
            Arrays.fill(claimed, 0);
            for (int d = 0; d < days; d++) {
                int claimer = walk.passDay(0);
                if (claimer >= 0 && claimer < MOST_PEOPLE) {
                    claimed[claimer]++;
                }
            }
            int most = NOTHING;
            int times = 0;
            for (int p = 0; p < s.told.people; p++) {
                if (most == NOTHING || claimed[p] > times) {
                    most = p;
                    times = claimed[p];
                }
            }
            return what == 0 ? most : times;
        }

        int bestStart(State s, Rule rule, int days, int what) {
            int best = NOTHING;
            int most = 0;
            for (int p = 0; p < s.told.people; p++) {
                int fitting = fittingDays(s, rule, days, p);
                if (best == NOTHING || fitting > most || fitting == most && p == s.now.begin) {
                    best = p;
                    most = fitting;
                }
            }
            return what == 0 ? best : most;
        }

        /** DAYS on which one CLAIMS who LACKS nothing, if rounds BEGIN at this PERSON. */
        private int fittingDays(State s, Rule rule, int days, int begin) {
            startOver(s, rule);
            then.begin = begin;
            int fitting = 0;
            for (int d = 0; d < days; d++) {
                int letter = walk.letterOfDay();
                int claimer = walk.passDay(0);
                if (letter >= 0 && letter < MOST_LETTERS && claimer >= 0 && claimer < MOST_PEOPLE
                    && then.lacking(claimer, s.told.claims[letter]) == 0) {
                    fitting++;
                }
            }
            return fitting;
        }

        /** What all LIVED stays as it is from DAY to DAY. */
        int firstAlike(State s, Rule rule, int what) {
            startOver(s, rule);
            for (int d = 0; d <= DAYS_ALIKE; d++) {
                feelings[d] = then.feelings();
                boards[d] = then.pinned << 4 | walk.letterOfDay() + 1;
                walk.passDay(0);
            }
            for (int d = 0; d < DAYS_ALIKE; d++) {
                for (int later = d + 1; later <= DAYS_ALIKE; later++) {
                    if (feelings[d] == feelings[later] && boards[d] == boards[later]) {
                        return what == 0 ? s.now.day + d : later - d;
                    }
                }
            }
            return NOTHING;
        }

        void rain(State s, Rule rule, int times, int days, int chance) {
            x = s.x;
            rainClaimed = 0;
            rainShame = 0;
            for (int t = 0; t < times; t++) {
                startOver(s, rule);
                for (int d = 0; d < days; d++) {
                    int drops = drawn(SURE_RAIN) < chance ? 1 << drawn(s.told.matters) : 0;
                    if (walk.passDay(drops) != NONE) {
                        rainClaimed++;
                    }
                }
                rainShame += sumOf(then.shame);
            }
        }

        private int drawn(int of) {
            x = (int) (x * 1103515245L + 12345 & 0x7FFFFFFF);
            return of > 0 ? x / 65536 % of : 0;
        }
    }

    /** What is asked by NOTES, told from the begin on, as the text told it. */
    private static final class Past {
        private static final int DAYS = LAST_NOTED_DAY + 1;
        private static final int UNTOLD = -2;

        private final Walk walk = new Walk();
        private final Moment then = new Moment();
        private final Told draft = new Told();
        /** Who is noted to have CLAIMED on each DAY. */
        private final int[] noted = new int[DAYS];
        private final int[] claimer = new int[DAYS];
        /** The rows of claimers of all RULES that may have been, one behind the other. */
        private final int[] tales = new int[(MOST_RULES + 1) * DAYS];
        private int notedDays = 0;

        /** Sets as LIVED by a PERSON, or as CLAIMS of a LETTER, with which all NOTES are so. */
        int possible(State s, Rule rule, boolean isOfPerson, int number, int what) {
            draft.become(s.told);
            int[] row = isOfPerson ? draft.lived : draft.claims;
            int many = 0;
            int least = NOTHING;
            if (number >= 0 && number < row.length && readNotes(s)) {
                for (int set = 0; set < 1 << s.told.matters; set++) {
                    row[number] = set;
                    if (isSo(rule, notedDays)) {
                        many++;
                        least = least == NOTHING ? set : least;
                    }
                }
            }
            return what == 0 ? many : least;
        }

        int ruling(State s, Rule[] rules, int ruleCount, int what) {
            draft.become(s.told);
            int many = 0;
            int first = NOTHING;
            if (readNotes(s)) {
                for (int r = NONE; r < ruleCount && r < rules.length; r++) {
                    if (isSo(r == NONE ? null : rules[r], notedDays)) {
                        many++;
                        first = first == NOTHING ? r : first;
                    }
                }
            }
            return what == 0 ? many : first;
        }

        int bestLook(State s, Rule[] rules, int ruleCount, int what) {
            draft.become(s.told);
            int many = 0;
            if (readNotes(s)) {
                for (int r = NONE; r < ruleCount && r < rules.length; r++) {
                    if (many <= MOST_RULES && isSo(r == NONE ? null : rules[r], DAYS)) {
                        System.arraycopy(claimer, 0, tales, many * DAYS, DAYS);
                        many++;
                    }
                }
            }
            int bestDay = NOTHING;
            int fewest = 0;
            for (int d = 0; d < DAYS && many > 0; d++) {
                int alike = mostAlike(many, d);
                if (bestDay == NOTHING || alike < fewest) {
                    bestDay = d;
                    fewest = alike;
                }
            }
            return what == 0 || bestDay == NOTHING ? bestDay : fewest;
        }

        private int mostAlike(int many, int day) {
            int most = 0;
            for (int i = 0; i < many; i++) {
                int alike = 0;
                for (int j = 0; j < many; j++) {
                    if (tales[i * DAYS + day] == tales[j * DAYS + day]) {
                        alike++;
                    }
                }
                most = Math.max(most, alike);
            }
            return most;
        }

        /** False, if two NOTES tell unlike things of one DAY, so that nothing could make both so. */
        private boolean readNotes(State s) {
            Arrays.fill(noted, UNTOLD);
            notedDays = 0;
            for (int i = 0; i < s.notes && i < MOST_NOTES; i++) {
                int day = s.noteDay[i];
                int who = s.noteClaimer[i];
                if (day < 0 || day >= DAYS || noted[day] != UNTOLD && noted[day] != who) {
                    return false;
                }
                noted[day] = who;
                notedDays = Math.max(notedDays, day + 1);
            }
            return true;
        }

        /** Whether the draft's first DAYS pass as noted. */
        private boolean isSo(Rule rule, int days) {
            then.becomeBegin(draft);
            walk.go(draft, then, rule);
            for (int d = 0; d < days && d < DAYS; d++) {
                claimer[d] = walk.passDay(0);
                if (noted[d] != UNTOLD && noted[d] != claimer[d]) {
                    return false;
                }
            }
            return true;
        }
    }
}
