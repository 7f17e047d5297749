import java.util.ArrayDeque;
import java.util.ArrayList;
import java.util.Deque;
import java.util.HashMap;
import java.util.HashSet;
import java.util.List;
import java.util.Map;
import java.util.Set;
import java.util.function.ToIntFunction;

/**
 * The document once more, in another style: texts by recursive descent into trees, states as copies, answers by
 * trying all that there is. DoorLetters is compared with it on random runs.
 */
final class Model {
    static final int NONE = -1;

    // ---- texts

    static final class Fault extends RuntimeException {
        final int number;

        Fault(int place, int kind) {
            super(null, null, false, false);
            number = 1 + 8 * place + kind;
        }
    }

    /** All that a WORD can ask for. */
    record Reading(Map<String, Long> words) {
    }

    interface Sum {
        long of(Reading r);
    }

    interface Test {
        boolean of(Reading r);
    }

    record Clause(Sum sum, Test test) {
    }

    static final Set<String> WORDS = Set.of("person", "fits", "lacks", "beyond", "pride", "shame", "seen", "has",
        "letter", "day");

    static final class Parser {
        final byte[] t;
        int at = 0;
        int parts = 0;

        Parser(byte[] t) {
            this.t = t;
        }

        char sign() {
            while (at < t.length && t[at] == ' ') {
                at++;
            }
            return at < t.length ? (char) (t[at] & 255) : '\uffff';
        }

        boolean atEnd() {
            return sign() == '\uffff';
        }

        String word() {
            sign();
            int to = at;
            StringBuilder b = new StringBuilder();
            while (to < t.length && t[to] >= 'a' && t[to] <= 'z') {
                b.append((char) t[to]);
                to++;
            }
            return b.toString();
        }

        Fault misplaced() {
            sign();
            return new Fault(at, 0);
        }

        int number(int least, int most) {
            if (sign() < '0' || sign() > '9') {
                throw misplaced();
            }
            int from = at;
            StringBuilder b = new StringBuilder();
            while (at < t.length && t[at] >= '0' && t[at] <= '9') {
                b.append((char) t[at]);
                at++;
            }
            if (b.length() > 5) {
                throw new Fault(from, 1);
            }
            int n = Integer.parseInt(b.toString());
            if (n < least || n > most) {
                throw new Fault(from, 1);
            }
            return n;
        }

        boolean goesOnBehindClause() {
            if (atEnd()) {
                return false;
            }
            if (sign() != ';') {
                throw misplaced();
            }
            at++;
            return true;
        }

        Village village() {
            Village v = new Village();
            int clauses = 0;
            do {
                String w = word();
                int from = at;
                if (w.equals("village")) {
                    if (clauses > 0) {
                        throw new Fault(from, 4);
                    }
                    at += w.length();
                    v.matters = number(1, 8);
                } else if (w.equals("person")) {
                    if (clauses == 0 || v.people.size() == 7) {
                        throw new Fault(from, 4);
                    }
                    at += w.length();
                    Person p = new Person();
                    p.lived = number(0, (1 << v.matters) - 1);
                    p.pride = number(0, 9);
                    p.shame = number(0, 9);
                    v.people.add(p);
                } else if (w.equals("letter")) {
                    if (clauses == 0 || v.letters.size() == 10) {
                        throw new Fault(from, 4);
                    }
                    at += w.length();
                    v.letters.add(number(0, (1 << v.matters) - 1));
                } else {
                    throw misplaced();
                }
                clauses++;
            } while (goesOnBehindClause());
            return v;
        }

        List<Clause> rule() {
            List<Clause> clauses = new ArrayList<>();
            do {
                String w = word();
                if (!w.equals("claim")) {
                    throw misplaced();
                }
                if (clauses.size() == 12) {
                    throw new Fault(at, 4);
                }
                at += w.length();
                Sum sum = sum();
                Test test = r -> true;
                if (word().equals("if")) {
                    at += 2;
                    test = test(0);
                }
                clauses.add(new Clause(sum, test));
            } while (goesOnBehindClause());
            return clauses;
        }

        Test test(int depth) {
            Test all = part(depth);
            while (word().equals("or")) {
                at += 2;
                Test a = all;
                Test b = part(depth);
                all = r -> a.of(r) || b.of(r);
            }
            return all;
        }

        Test part(int depth) {
            Test all = fact(depth);
            while (word().equals("and")) {
                at += 3;
                Test a = all;
                Test b = fact(depth);
                all = r -> a.of(r) && b.of(r);
            }
            return all;
        }

        Test fact(int depth) {
            if (sign() == '[') {
                if (depth == 10) {
                    throw new Fault(at, 2);
                }
                at++;
                Test inner = test(depth + 1);
                if (sign() != ']') {
                    throw misplaced();
                }
                at++;
                return inner;
            }
            if (word().equals("not")) {
                if (depth == 10) {
                    throw new Fault(at, 2);
                }
                at += 3;
                Test inner = fact(depth + 1);
                return r -> !inner.of(r);
            }
            Sum a = sum();
            char sign = sign();
            if (sign != '<' && sign != '=' && sign != '>') {
                throw misplaced();
            }
            countPart(at);
            at++;
            boolean orEqual = sign != '=' && at < t.length && t[at] == '=';
            if (orEqual) {
                at++;
            }
            Sum b = sum();
            return r -> {
                int compared = Long.compare(a.of(r), b.of(r));
                return compared == 0 ? orEqual || sign == '=' : sign == (compared < 0 ? '<' : '>');
            };
        }

        void countPart(int place) {
            parts++;
            if (parts > 60) {
                throw new Fault(place, 3);
            }
        }

        Sum sum() {
            Sum all = term();
            while (sign() == '+' || sign() == '-') {
                boolean plus = sign() == '+';
                at++;
                Sum a = all;
                Sum b = term();
                all = r -> plus ? a.of(r) + b.of(r) : a.of(r) - b.of(r);
            }
            return all;
        }

        Sum term() {
            Sum all = value();
            while (sign() == '*' || sign() == '/' || sign() == '%') {
                char op = sign();
                at++;
                Sum a = all;
                Sum b = value();
                all = r -> {
                    long x = a.of(r);
                    long y = b.of(r);
                    return op == '*' ? x * y : y == 0 ? 0 : op == '/' ? x / y : x % y;
                };
            }
            return all;
        }

        Sum value() {
            char sign = sign();
            int from = at;
            if (sign >= '0' && sign <= '9') {
                long n = number(0, 99999);
                countPart(from);
                return r -> n;
            }
            String w = word();
            if (!WORDS.contains(w)) {
                throw misplaced();
            }
            countPart(from);
            at += w.length();
            return r -> r.words().get(w);
        }
    }

    // ---- states

    static final class Person {
        int lived;
        int pride;
        int shame;
        int has;

        Person copy() {
            Person p = new Person();
            p.lived = lived;
            p.pride = pride;
            p.shame = shame;
            p.has = has;
            return p;
        }
    }

    static final class Village {
        int matters;
        List<Person> people = new ArrayList<>();
        List<Integer> letters = new ArrayList<>();
        Set<Integer> pinned = new HashSet<>();
        int day;
        int begin;

        Village copy() {
            Village v = new Village();
            v.matters = matters;
            people.forEach(p -> v.people.add(p.copy()));
            v.letters.addAll(letters);
            v.pinned.addAll(pinned);
            v.day = day;
            v.begin = begin;
            return v;
        }

        int n() {
            return people.size();
        }

        int pinnedBits() {
            int bits = 0;
            for (int l : pinned) {
                bits += 1 << l;
            }
            return bits;
        }

        String seenAtBegin() {
            StringBuilder b = new StringBuilder();
            b.append(letters.isEmpty() ? 0 : day % letters.size()).append(' ').append(pinnedBits());
            for (Person p : people) {
                b.append(' ').append(p.lived).append(',').append(p.pride).append(',').append(p.shame);
            }
            return b.toString();
        }
    }

    record Note(int day, int person) {
    }

    static final class All {
        Village told = null;
        Village now = null;
        Deque<Village> undo = new ArrayDeque<>();
        List<Note> notes = new ArrayList<>();
        int force = NONE;
        int x = 0;

        All copy() {
            All a = new All();
            a.told = told == null ? null : told.copy();
            a.now = now == null ? null : now.copy();
            for (Village v : undo) {
                a.undo.addLast(v.copy());
            }
            a.notes.addAll(notes);
            a.force = force;
            a.x = x;
            return a;
        }
    }

    byte[] tape = new byte[0];
    List<List<Clause>> rules = new ArrayList<>();
    All s = new All();
    All[] images = new All[4];

    // ---- a DAY

    static int bits(int set) {
        int n = 0;
        for (int i = 0; i < 31; i++) {
            n += set >> i & 1;
        }
        return n;
    }

    static int lacks(Person p, int claims) {
        return bits(claims & ~p.lived);
    }

    static int fitsOf(Person p, int claims) {
        return bits(claims & p.lived);
    }

    static int beyond(Person p, int claims) {
        return bits(p.lived & ~claims);
    }

    static boolean claims(Village v, List<Clause> rule, int who, int letter, int claims, int seen) {
        Person p = v.people.get(who);
        if (rule == null) {
            return lacks(p, claims) == 0;
        }
        Map<String, Long> words = new HashMap<>();
        words.put("person", (long) who);
        words.put("fits", (long) fitsOf(p, claims));
        words.put("lacks", (long) lacks(p, claims));
        words.put("beyond", (long) beyond(p, claims));
        words.put("pride", (long) p.pride);
        words.put("shame", (long) p.shame);
        words.put("seen", (long) seen);
        words.put("has", (long) p.has);
        words.put("letter", (long) letter);
        words.put("day", (long) v.day);
        Reading r = new Reading(words);
        for (Clause c : rule) {
            if (c.test().of(r)) {
                return c.sum().of(r) > 0;
            }
        }
        return false;
    }

    /** Reads in this order; how many read it (who CLAIMS it, too), or -1 if nobody CLAIMS it. */
    static int readIn(Village v, List<Clause> rule, List<Integer> order, int letter, int claims) {
        int seen = 0;
        for (int who : order) {
            Person p = v.people.get(who);
            int lacks = lacks(p, claims);
            if (claims(v, rule, who, letter, claims, seen)) {
                p.has = Math.min(999, p.has + 1);
                if (lacks > 0) {
                    p.shame = Math.min(30, p.shame + lacks);
                } else if (p.shame > 0) {
                    p.shame--;
                }
                return seen + 1;
            }
            if (lacks == 0 && p.pride > 0) {
                p.pride--;
            }
            seen++;
        }
        return -1;
    }

    static int passDay(Village v, List<Clause> rule, int rain) {
        int claimer = NONE;
        if (!v.letters.isEmpty()) {
            int letter = v.day % v.letters.size();
            List<Integer> order = new ArrayList<>();
            for (int i = 0; i < v.n(); i++) {
                order.add((v.begin + i) % v.n());
            }
            int read = readIn(v, rule, order, letter, v.letters.get(letter) ^ rain);
            if (read < 0) {
                v.pinned.add(letter);
            } else {
                claimer = order.get(read - 1);
            }
        }
        v.day++;
        return claimer;
    }

    List<Clause> inForce() {
        return s.force < 0 ? null : rules.get(s.force);
    }

    boolean none() {
        return s.told == null;
    }

    boolean isPerson(int p) {
        return !none() && p >= 0 && p < s.now.n();
    }

    boolean isLetter(int l) {
        return !none() && l >= 0 && l < s.now.letters.size();
    }

    void act() {
        s.undo.addLast(s.now.copy());
        if (s.undo.size() > 20) {
            s.undo.removeFirst();
        }
    }

    // ---- the face

    int feed(int a, int b, int c, int d, int e) {
        if (tape.length + 20 > 400) {
            return NONE;
        }
        java.nio.ByteBuffer buffer = java.nio.ByteBuffer.allocate(tape.length + 20);
        buffer.put(tape).putInt(a).putInt(b).putInt(c).putInt(d).putInt(e);
        tape = buffer.array();
        return tape.length;
    }

    int end(int n) {
        if (n < 0 || n > tape.length) {
            return NONE;
        }
        tape = java.util.Arrays.copyOf(tape, n);
        return n;
    }

    int village() {
        byte[] text = tape;
        tape = new byte[0];
        try {
            Village v = new Parser(text).village();
            s.told = v;
            s.now = v.copy();
            s.undo.clear();
            s.notes.clear();
            return v.n();
        } catch (Fault f) {
            return -2 - f.number;
        }
    }

    int rule() {
        if (rules.size() == 6) {
            return NONE;
        }
        byte[] text = tape;
        tape = new byte[0];
        try {
            rules.add(new Parser(text).rule());
            return rules.size() - 1;
        } catch (Fault f) {
            return -2 - f.number;
        }
    }

    int force(int rule) {
        if (rule < -1 || rule >= rules.size()) {
            return -2;
        }
        int was = s.force;
        s.force = rule;
        return was;
    }

    int person(int person, int what) {
        if (!isPerson(person) || what < 0 || what > 3) {
            return NONE;
        }
        Person p = s.now.people.get(person);
        return new int[] {p.lived, p.pride, p.shame, p.has}[what];
    }

    int letter(int letter, int what) {
        if (!isLetter(letter) || what < 0 || what > 1) {
            return NONE;
        }
        return what == 0 ? s.now.letters.get(letter) : s.now.pinned.contains(letter) ? 1 : 0;
    }

    int day() {
        if (none() || s.now.day == 999) {
            return NONE;
        }
        act();
        int who = passDay(s.now, inForce(), 0);
        return who == NONE ? -2 : who;
    }

    int begin(int person) {
        if (!isPerson(person) || person == s.now.begin) {
            return NONE;
        }
        act();
        int was = s.now.begin;
        s.now.begin = person;
        return was;
    }

    int live(int person, int matter) {
        if (!isPerson(person) || matter < 0 || matter >= s.now.matters) {
            return NONE;
        }
        act();
        Person p = s.now.people.get(person);
        boolean had = (p.lived >> matter & 1) == 1;
        p.lived += had ? -(1 << matter) : 1 << matter;
        return p.lived;
    }

    int give(int letter, int person) {
        if (!isPerson(person) || !isLetter(letter) || !s.now.pinned.contains(letter)) {
            return NONE;
        }
        act();
        s.now.pinned.remove(letter);
        Person p = s.now.people.get(person);
        p.has = Math.min(999, p.has + 1);
        return p.has;
    }

    int hush(int person) {
        if (!isPerson(person) || s.now.people.get(person).shame == 0) {
            return NONE;
        }
        act();
        int was = s.now.people.get(person).shame;
        s.now.people.get(person).shame = 0;
        return was;
    }

    int undo() {
        if (s.undo.isEmpty()) {
            return -2;
        }
        s.now = s.undo.removeLast();
        return s.undo.size();
    }

    int fits(int person, int letter, int what) {
        if (!isPerson(person) || !isLetter(letter) || what < 0 || what > 2) {
            return NONE;
        }
        Person p = s.now.people.get(person);
        int claims = s.now.letters.get(letter);
        return what == 0 ? fitsOf(p, claims) : what == 1 ? lacks(p, claims) : beyond(p, claims);
    }

    int whose(int letter, int what) {
        if (!isLetter(letter) || what < 0 || what > 1) {
            return NONE;
        }
        int claims = s.now.letters.get(letter);
        int set = 0;
        int best = -2;
        for (int p = 0; p < s.now.n(); p++) {
            Person q = s.now.people.get(p);
            if (lacks(q, claims) == 0) {
                set |= 1 << p;
            }
            if (best < 0) {
                best = p;
            } else {
                Person b = s.now.people.get(best);
                if (lacks(q, claims) < lacks(b, claims)
                    || lacks(q, claims) == lacks(b, claims) && beyond(q, claims) < beyond(b, claims)) {
                    best = p;
                }
            }
        }
        return what == 0 ? set : best;
    }

    private int questions(int set, Set<Integer> open, int firstOnly) {
        if (bits(set) == 1) {
            return 0;
        }
        int best = 1000;
        for (int m : open) {
            if (firstOnly >= 0 && m != firstOnly) {
                continue;
            }
            int yes = 0;
            for (int p = 0; p < s.now.n(); p++) {
                if ((set >> p & 1) == 1 && (s.now.people.get(p).lived >> m & 1) == 1) {
                    yes |= 1 << p;
                }
            }
            Set<Integer> rest = new HashSet<>(open);
            rest.remove(m);
            int worst = Math.max(yes == 0 ? 0 : questions(yes, rest, -1), yes == set ? 0 : questions(set & ~yes, rest, -1));
            best = Math.min(best, 1 + worst);
        }
        return best;
    }

    int ask(int people, int what) {
        if (none() || what < 0 || what > 1 || people < 1 || people >= 1 << s.now.n()) {
            return -3;
        }
        Set<Integer> lives = new HashSet<>();
        for (int p = 0; p < s.now.n(); p++) {
            if ((people >> p & 1) == 1 && !lives.add(s.now.people.get(p).lived)) {
                return -2;
            }
        }
        if (lives.size() == 1) {
            return what == 0 ? 0 : NONE;
        }
        Set<Integer> open = new HashSet<>();
        for (int m = 0; m < s.now.matters; m++) {
            open.add(m);
        }
        int fewest = questions(people, open, -1);
        if (what == 0) {
            return fewest;
        }
        for (int m = 0;; m++) {
            if (questions(people, open, m) == fewest) {
                return m;
            }
        }
    }

    int know(int what) {
        if (none() || what < 0 || what > 1) {
            return NONE;
        }
        Set<Integer> lives = new HashSet<>();
        s.now.people.forEach(p -> lives.add(p.lived));
        for (int size = 0;; size++) {
            for (int set = 0; set < 1 << s.now.matters; set++) {
                int mask = set;
                Set<Integer> seen = new HashSet<>();
                lives.forEach(l -> seen.add(l & mask));
                if (bits(set) == size && seen.size() == lives.size()) {
                    return what == 0 ? size : set;
                }
            }
        }
    }

    private int[] bestPairs;

    private void pairFrom(int person, int[] given, int used) {
        if (person == given.length) {
            int many = 0;
            int bestMany = 0;
            for (int i = 0; i < given.length; i++) {
                many += given[i] < 10 ? 1 : 0;
                bestMany += bestPairs != null && bestPairs[i] < 10 ? 1 : 0;
            }
            if (bestPairs == null || many > bestMany) {
                bestPairs = given.clone();
            }
            return;
        }
        for (int l = 0; l < s.now.letters.size(); l++) {
            if ((used >> l & 1) == 0 && lacks(s.now.people.get(person), s.now.letters.get(l)) == 0) {
                given[person] = l;
                pairFrom(person + 1, given, used | 1 << l);
            }
        }
        given[person] = 10;
        pairFrom(person + 1, given, used);
    }

    int pairs(int what) {
        if (none() || what < -1 || what >= s.now.n()) {
            return -2;
        }
        bestPairs = null;
        pairFrom(0, new int[s.now.n()], 0);
        int many = 0;
        for (int l : bestPairs) {
            many += l < 10 ? 1 : 0;
        }
        return what == -1 ? many : bestPairs[what] == 10 ? NONE : bestPairs[what];
    }

    private int bestFrom(int person, int used) {
        if (person == s.now.n()) {
            return 0;
        }
        int best = bestFrom(person + 1, used);
        for (int l = 0; l < s.now.letters.size(); l++) {
            if ((used >> l & 1) == 0) {
                Person p = s.now.people.get(person);
                int worth = fitsOf(p, s.now.letters.get(l)) - lacks(p, s.now.letters.get(l));
                best = Math.max(best, worth + bestFrom(person + 1, used | 1 << l));
            }
        }
        return best;
    }

    int best() {
        return none() ? NONE : bestFrom(0, 0);
    }

    private void orders(List<Integer> begun, int n, List<List<Integer>> all) {
        if (begun.size() == n) {
            all.add(new ArrayList<>(begun));
            return;
        }
        for (int p = 0; p < n; p++) {
            if (!begun.contains(p)) {
                begun.add(p);
                orders(begun, n, all);
                begun.remove(begun.size() - 1);
            }
        }
    }

    int way(int letter, int what) {
        if (!isLetter(letter) || what < 0 || what > 1) {
            return NONE;
        }
        List<List<Integer>> all = new ArrayList<>();
        orders(new ArrayList<>(), s.now.n(), all);
        int fewest = 100;
        int who = -2;
        for (List<Integer> order : all) {
            int read = readIn(s.now.copy(), inForce(), order, letter, s.now.letters.get(letter));
            if (read > 0 && read < fewest) {
                fewest = read;
                who = order.get(read - 1);
            }
        }
        return who == -2 ? -2 : what == 0 ? fewest : who;
    }

    int join(int matters, int what) {
        if (none() || what < 0 || what > 1 || matters < 0 || matters >= 1 << s.now.matters) {
            return NONE;
        }
        for (int size = 1; size <= 10; size++) {
            for (int set = 1; set < 1 << s.now.letters.size(); set++) {
                int union = 0;
                boolean pinned = true;
                for (int l = 0; l < s.now.letters.size(); l++) {
                    if ((set >> l & 1) == 1) {
                        union |= s.now.letters.get(l);
                        pinned &= s.now.pinned.contains(l);
                    }
                }
                if (bits(set) == size && pinned && union == matters) {
                    return what == 0 ? size : set;
                }
            }
        }
        return -2;
    }

    private int[] haveIn(int one, int other, int claims, int a, int b) {
        Person p = s.now.people.get(one);
        Person q = s.now.people.get(other);
        int worthP = fitsOf(p, claims) - lacks(p, claims);
        int worthQ = fitsOf(q, claims) - lacks(q, claims);
        if (a == 1 && b == 1) {
            int lp = lacks(p, claims);
            int lq = lacks(q, claims);
            boolean pWins = lp != lq ? lp < lq : one < other;
            return pWins ? new int[] {worthP, -1 - q.shame} : new int[] {-1 - p.shame, worthQ};
        }
        return new int[] {a == 1 ? worthP + p.pride : 0, b == 1 ? worthQ + q.pride : 0};
    }

    int rests(int one, int other, int letter, int what) {
        if (!isPerson(one) || !isPerson(other) || one == other || !isLetter(letter) || what < 0 || what > 2) {
            return NONE;
        }
        int claims = s.now.letters.get(letter);
        List<int[]> rests = new ArrayList<>();
        for (int a = 0; a < 2; a++) {
            for (int b = 0; b < 2; b++) {
                int[] here = haveIn(one, other, claims, a, b);
                boolean oneWould = haveIn(one, other, claims, 1 - a, b)[0] > here[0];
                boolean otherWould = haveIn(one, other, claims, a, 1 - b)[1] > here[1];
                if (!oneWould && !otherWould) {
                    rests.add(new int[] {a, b});
                }
            }
        }
        return what == 0 ? rests.size() : rests.isEmpty() ? -2 : rests.get(0)[what - 1];
    }

    int ahead(int person, int n, int what) {
        if (none() || n < 0 || n > 100 || what < 0 || what > 2 || what < 2 && !isPerson(person)) {
            return NONE;
        }
        Village v = s.now.copy();
        for (int i = 0; i < n; i++) {
            passDay(v, inForce(), 0);
        }
        return what == 2 ? v.pinnedBits() : what == 0 ? v.people.get(person).has : v.people.get(person).shame;
    }

    private int firstOf(ToIntFunction<Integer> wanted) {
        Village v = s.now.copy();
        for (int i = 0; i < 200; i++) {
            if (wanted.applyAsInt(passDay(v, inForce(), 0)) == 1) {
                return s.now.day + i;
            }
        }
        return -2;
    }

    int first(int person) {
        return isPerson(person) ? firstOf(who -> who == person ? 1 : 0) : NONE;
    }

    int nobody() {
        return none() ? NONE : firstOf(who -> who < 0 ? 1 : 0);
    }

    int often(int n, int what) {
        if (none() || n < 1 || n > 100 || what < 0 || what > 1) {
            return NONE;
        }
        Village v = s.now.copy();
        int[] times = new int[v.n()];
        for (int i = 0; i < n; i++) {
            int who = passDay(v, inForce(), 0);
            if (who >= 0) {
                times[who]++;
            }
        }
        int most = 0;
        int who = -2;
        for (int p = v.n() - 1; p >= 0; p--) {
            if (times[p] >= most) {
                most = times[p];
                who = p;
            }
        }
        return what == 0 ? who : most;
    }

    private int wellClaimed(int begin, int n) {
        Village v = s.now.copy();
        v.begin = begin;
        int well = 0;
        for (int i = 0; i < n; i++) {
            int day = v.day;
            int who = passDay(v, inForce(), 0);
            if (who >= 0 && lacks(v.people.get(who), v.letters.get(day % v.letters.size())) == 0) {
                well++;
            }
        }
        return well;
    }

    int start(int n, int what) {
        if (none() || n < 1 || n > 40 || what < 0 || what > 1) {
            return NONE;
        }
        if (s.now.n() == 0) {
            return what == 0 ? -2 : 0;
        }
        int most = 0;
        for (int b = 0; b < s.now.n(); b++) {
            most = Math.max(most, wellClaimed(b, n));
        }
        if (what == 1) {
            return most;
        }
        if (wellClaimed(s.now.begin, n) == most) {
            return s.now.begin;
        }
        for (int b = 0;; b++) {
            if (wellClaimed(b, n) == most) {
                return b;
            }
        }
    }

    private boolean allSo(Village from, List<Clause> rule) {
        int last = -1;
        for (Note note : s.notes) {
            last = Math.max(last, note.day());
        }
        List<Integer> who = tale(from, rule, last + 1);
        for (Note note : s.notes) {
            if (who.get(note.day()) != note.person()) {
                return false;
            }
        }
        return true;
    }

    private List<Integer> tale(Village from, List<Clause> rule, int days) {
        Village v = from.copy();
        List<Integer> who = new ArrayList<>();
        for (int d = 0; d < days; d++) {
            who.add(passDay(v, rule, 0));
        }
        return who;
    }

    int lives(int person, int what) {
        if (!isPerson(person) || what < 0 || what > 1) {
            return NONE;
        }
        int many = 0;
        int least = -2;
        for (int set = (1 << s.told.matters) - 1; set >= 0; set--) {
            Village v = s.told.copy();
            v.people.get(person).lived = set;
            if (allSo(v, inForce())) {
                many++;
                least = set;
            }
        }
        return what == 0 ? many : least;
    }

    int writes(int letter, int what) {
        if (!isLetter(letter) || what < 0 || what > 1) {
            return NONE;
        }
        int many = 0;
        int least = -2;
        for (int set = (1 << s.told.matters) - 1; set >= 0; set--) {
            Village v = s.told.copy();
            v.letters.set(letter, set);
            if (allSo(v, inForce())) {
                many++;
                least = set;
            }
        }
        return what == 0 ? many : least;
    }

    int alike(int what) {
        if (none() || what < 0 || what > 1) {
            return NONE;
        }
        List<String> begins = new ArrayList<>();
        Village v = s.now.copy();
        for (int d = 0; d <= 60; d++) {
            begins.add(v.seenAtBegin());
            passDay(v, inForce(), 0);
        }
        for (int d = 0; d < 60; d++) {
            int later = begins.subList(d + 1, 61).indexOf(begins.get(d));
            if (later >= 0) {
                return what == 0 ? s.now.day + d : later + 1;
            }
        }
        return -2;
    }

    int pence(int much, int person) {
        if (!isPerson(person) || much < 0 || much > 9999) {
            return NONE;
        }
        int all = 0;
        for (Person p : s.now.people) {
            all += p.has;
        }
        if (all == 0) {
            return 0;
        }
        int n = s.now.n();
        int[] part = new int[n];
        int left = much;
        for (int p = 0; p < n; p++) {
            part[p] = much * s.now.people.get(p).has / all;
            left -= part[p];
        }
        boolean[] had = new boolean[n];
        for (; left > 0; left--) {
            int who = -1;
            for (int p = 0; p < n; p++) {
                int lost = much * s.now.people.get(p).has % all;
                if (!had[p] && (who < 0 || lost > much * s.now.people.get(who).has % all)) {
                    who = p;
                }
            }
            had[who] = true;
            part[who]++;
        }
        return part[person];
    }

    int note(int n, int person) {
        if (n == NONE) {
            s.notes.clear();
            return 0;
        }
        if (none() || n < 0 || n > 60 || person != NONE && !isPerson(person) || s.notes.size() == 10) {
            return -2;
        }
        s.notes.add(new Note(n, person));
        return s.notes.size();
    }

    private List<Integer> ruling() {
        List<Integer> so = new ArrayList<>();
        for (int r = -1; r < rules.size(); r++) {
            if (allSo(s.told, r < 0 ? null : rules.get(r))) {
                so.add(r);
            }
        }
        return so;
    }

    int ruled(int what) {
        if (none() || what < 0 || what > 1) {
            return -3;
        }
        List<Integer> so = ruling();
        return what == 0 ? so.size() : so.isEmpty() ? -2 : so.get(0);
    }

    int look(int what) {
        if (none() || what < 0 || what > 1) {
            return NONE;
        }
        List<List<Integer>> tales = new ArrayList<>();
        for (int r : ruling()) {
            tales.add(tale(s.told, r < 0 ? null : rules.get(r), 61));
        }
        if (tales.isEmpty()) {
            return -2;
        }
        int bestDay = -1;
        int fewest = 100;
        for (int d = 0; d <= 60; d++) {
            Map<Integer, Integer> groups = new HashMap<>();
            for (List<Integer> tale : tales) {
                groups.merge(tale.get(d), 1, Integer::sum);
            }
            int most = java.util.Collections.max(groups.values());
            if (most < fewest) {
                fewest = most;
                bestDay = d;
            }
        }
        return what == 0 ? bestDay : fewest;
    }

    int seed(int x) {
        if (x < 0) {
            return NONE;
        }
        int was = s.x;
        s.x = x;
        return was;
    }

    int rains(int m, int n, int p, int what) {
        if (none() || m < 1 || m > 10 || n < 1 || n > 60 || p < 0 || p > 100 || what < 0 || what > 1) {
            return NONE;
        }
        java.math.BigInteger x = java.math.BigInteger.valueOf(s.x);
        int claimed = 0;
        int shame = 0;
        for (int i = 0; i < m; i++) {
            Village v = s.now.copy();
            for (int d = 0; d < n; d++) {
                x = drawn(x);
                int rain = 0;
                if (x.intValue() / 65536 % 100 < p) {
                    x = drawn(x);
                    rain = 1 << x.intValue() / 65536 % v.matters;
                }
                if (passDay(v, inForce(), rain) >= 0) {
                    claimed++;
                }
            }
            for (Person q : v.people) {
                shame += q.shame;
            }
        }
        return what == 0 ? claimed : shame;
    }

    private static java.math.BigInteger drawn(java.math.BigInteger x) {
        return x.multiply(java.math.BigInteger.valueOf(1103515245)).add(java.math.BigInteger.valueOf(12345))
            .mod(java.math.BigInteger.valueOf(2147483648L));
    }

    int count(int what) {
        Village v = none() ? new Village() : s.now;
        return switch (what) {
            case 0 -> v.matters;
            case 1 -> v.n();
            case 2 -> v.letters.size();
            case 3 -> rules.size();
            case 4 -> s.force;
            case 5 -> v.day;
            case 6 -> v.begin;
            case 7 -> v.pinnedBits();
            case 8 -> v.people.stream().mapToInt(p -> p.has).sum();
            case 9 -> v.people.stream().mapToInt(p -> p.shame).sum();
            case 10 -> s.notes.size();
            case 11 -> s.undo.size();
            case 12 -> s.x;
            case 13 -> tape.length;
            default -> NONE;
        };
    }

    int image(int k) {
        if (k < 0 || k > 3) {
            return NONE;
        }
        images[k] = s.copy();
        return none() ? 0 : s.now.day;
    }

    int back(int k) {
        if (k < 0 || k > 3 || images[k] == null) {
            return NONE;
        }
        s = images[k].copy();
        return none() ? 0 : s.now.day;
    }
}
