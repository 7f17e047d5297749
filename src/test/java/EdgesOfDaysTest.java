/** Sentence by sentence, the edges that the document names of how it goes on, and of DRAWS: promises 24 to 28, 31, 36 and 37. */
public final class EdgesOfDaysTest {
    private static final int[] FAR = {-1, Integer.MIN_VALUE, Integer.MAX_VALUE};
    private static final String TWO = "village 1;person 1 0 0;person 1 0 0;letter 1";

    public static void main(String[] args) {
        beyond999();
        ahead0To100();
        aheadOfNoPerson();
        asAllIs();
        aheadRefused();
        first200();
        firstInNone();
        firstRefused();
        nobody200();
        nobodyInNone();
        nobodyRefused();
        often1To100();
        oftenTheLeast();
        oftenWithoutPeople();
        oftenRefused();
        start1To40();
        startAsItIs();
        startWhoLacksNothing();
        startWithoutPeople();
        startRefused();
        alikeFirstOf60();
        alike60Later();
        alikeInAllThatIsNamed();
        alikeNone();
        alikeRefused();
        seedOfAllNumbers();
        seedBelow0();
        drawsGoRound();
        rainBelowP();
        rainOnAMatter();
        rainOrNot();
        rainEachFromNowOn();
        rainRefused();
        nothingChanges();
        Due.end("EdgesOfDaysTest");
    }

    /** More calls than an object promises: it takes DAYS to come so far. */
    private static DoorLetters at999(String village, String... rules) {
        DoorLetters x = Due.told(village, rules);
        for (int day = 0; day < 999; day++) {
            x.day();
        }
        Due.is("DAY", x.count(5), 999);
        return x;
    }

    private static void beyond999() {
        Due.sentence("24 to 28, 31, 37", "(DAYS go on by the RULE IN FORCE in what follows, beyond 999, too.)");
        DoorLetters x = at999(TWO, "claim 0", "claim 1 if person = 1 and day > 999", "claim 1000 - day");
        x.force(1);
        Due.is("AHEAD", x.ahead(1, 100, 0), 99);
        Due.is("FIRST", x.first(1), 1000);
        Due.is("NOBODY", x.nobody(), 999);
        Due.is("OFTEN", x.often(100, 0) * 1000 + x.often(100, 1), 1099);
        Due.is("START", x.start(40, 1), 39);
        Due.is("RAINS", x.rains(1, 60, 0, 0), 59);
        x.force(2);
        Due.is("NOBODY", x.nobody(), 1000);
        Due.is("ALIKE", x.alike(0) * 10 + x.alike(1), 9991);
        Due.is("by hand no more", x.day(), -1);
    }

    // ---- promise 24

    private static void ahead0To100() {
        Due.sentence("24", "AHEAD n DAYS (0 to 100): how many a PERSON HAS; their SHAME; LETTERS that are PINNED, as bits.");
        DoorLetters x = Due.told("village 1;person 0 0 0;person 1 0 9" + ";letter 1".repeat(10),
            "claim 1 if day < 99;claim person", "claim 0");
        Due.is("0 DAYS", x.ahead(1, 0, 0) * 100 + x.ahead(1, 0, 1) * 10 + x.ahead(1, 0, 2), 90);
        Due.is("1 DAY", x.ahead(0, 1, 0), 1);
        Due.is("99 DAYS", x.ahead(0, 99, 0) * 10 + x.ahead(1, 99, 0), 990);
        Due.is("100 DAYS", x.ahead(0, 100, 0) * 10 + x.ahead(1, 100, 0), 991);
        Due.is("SHAME after 30 DAYS", x.ahead(0, 30, 1), 30);
        Due.is("SHAME after 31 DAYS", x.ahead(0, 31, 1), 30);
        Due.is("SHAME after 100 DAYS", x.ahead(1, 100, 1), 8);
        x.force(1);
        for (int n = 0; n <= 10; n++) {
            Due.is("PINNED after DAYS " + n, x.ahead(0, n, 2), (1 << n) - 1);
        }
        Due.is("PINNED after 100 DAYS", x.ahead(0, 100, 2), 1023);
    }

    private static void aheadOfNoPerson() {
        Due.sentence("24", "2: LETTERS (no PERSON is asked for these)");
        DoorLetters x = Due.told("village 1;person 0 0 0;letter 1");
        for (int person : new int[] {0, 1, 7, -1, -2, Integer.MIN_VALUE, Integer.MAX_VALUE}) {
            Due.is("PERSON " + person, x.ahead(person, 1, 2), 1);
        }
        Due.is("without PEOPLE", Due.told("village 1;letter 0").ahead(0, 1, 2), 1);
        Due.is("without LETTERS", Due.told("village 1").ahead(0, 100, 2), 0);
    }

    private static void asAllIs() {
        Due.sentence("24", "DAYS go on by the RULE IN FORCE in what follows");
        DoorLetters x = Due.told("village 1;person 1 0 0;person 1 0 0;person 1 0 0;letter 1");
        for (int begin = 2; begin >= 0; begin--) {
            x.begin(begin);
            Due.is("from where rounds BEGIN", x.ahead(begin, 100, 0), 100);
            Due.is("from where rounds BEGIN", x.first(begin), 0);
            Due.is("from where rounds BEGIN", x.often(100, 0), begin);
        }
        Due.rule(x, "claim person");
        x.force(0);
        Due.is("by the RULE IN FORCE", x.ahead(1, 100, 0), 100);
        x.force(-1);
        Due.is("by none", x.ahead(1, 100, 0), 0);
    }

    private static void aheadRefused() {
        Due.sentence("24", "NONE without these, or a VILLAGE.");
        DoorLetters x = Due.told("village 1;person 0 0 0;letter 1");
        for (int what = 0; what < 3; what++) {
            Due.is("101 DAYS", x.ahead(0, 101, what), -1);
            for (int wrong : FAR) {
                Due.is("DAYS " + wrong, x.ahead(0, wrong, what), -1);
            }
            Due.is("without a VILLAGE", new DoorLetters().ahead(0, 0, what), -1);
        }
        Due.is("what 3", x.ahead(0, 1, 3), -1);
        Due.is("PERSON 1 of one", x.ahead(1, 1, 0), -1);
        Due.is("PERSON 1 of one", x.ahead(1, 1, 1), -1);
        for (int wrong : FAR) {
            Due.is("what " + wrong, x.ahead(0, 1, wrong), -1);
            Due.is("PERSON " + wrong, x.ahead(wrong, 1, 0), -1);
            Due.is("PERSON " + wrong, x.ahead(wrong, 1, 1), -1);
        }
        Due.is("without PEOPLE", Due.told("village 1;letter 0").ahead(0, 1, 0), -1);
    }

    // ---- promise 25

    private static void first200() {
        Due.sentence("25", "FIRST of a PERSON: the first DAY, this one the first, of 200, in which they CLAIM.");
        DoorLetters x = Due.told(TWO, "claim 1 if person = 1 and day >= 199", "claim 1 if person = 1 and day >= 206",
            "claim 1 if person = 1 and day >= 207", "claim 1");
        Due.is("the last of 200", x.first(1), 199);
        for (int i = 0; i < 7; i++) {
            x.day();
        }
        x.force(1);
        Due.is("the last of 200, from DAY 7 on", x.first(1), 206);
        x.force(2);
        Due.is("one too late", x.first(1), -2);
        x.force(3);
        Due.is("this one", x.first(0), 7);
    }

    private static void firstInNone() {
        Due.sentence("25", "FIRST; -2: in none of these");
        DoorLetters x = Due.told(TWO, "claim 1 if person = 1 and day >= 200");
        Due.is("one too late", x.first(1), -2);
        Due.is("never", x.first(0), -2);
        Due.is("without LETTERS", Due.told("village 1;person 1 0 0", "claim 1").first(0), -2);
        DoorLetters y = Due.told("village 1;person 0 0 0;person 1 0 0;letter 1");
        Due.is("who LACKS it, without a RULE", y.first(0), -2);
        Due.is("who LACKS nothing", y.first(1), 0);
    }

    private static void firstRefused() {
        Due.sentence("25", "NONE without that PERSON.");
        DoorLetters x = Due.told(TWO, "claim 0");
        Due.is("PERSON 2 of two", x.first(2), -1);
        for (int wrong : FAR) {
            Due.is("PERSON " + wrong, x.first(wrong), -1);
        }
        Due.is("without PEOPLE", Due.told("village 1;letter 0").first(0), -1);
        Due.is("without a VILLAGE", new DoorLetters().first(0), -1);
    }

    // ---- promise 26

    private static void nobody200() {
        Due.sentence("26", "NOBODY: the first DAY, this one the first, of 200, in which nobody does.");
        DoorLetters x = Due.told(TWO, "claim 199 - day", "claim 206 - day", "claim 207 - day", "claim 0");
        Due.is("the last of 200", x.nobody(), 199);
        for (int i = 0; i < 7; i++) {
            x.day();
        }
        x.force(1);
        Due.is("the last of 200, from DAY 7 on", x.nobody(), 206);
        x.force(2);
        Due.is("one too late", x.nobody(), -2);
        x.force(3);
        Due.is("this one", x.nobody(), 7);
    }

    private static void nobodyInNone() {
        Due.sentence("26", "NOBODY; -2: in none of these");
        Due.is("one too late", Due.told(TWO, "claim 200 - day").nobody(), -2);
        Due.is("never", Due.told(TWO, "claim 1").nobody(), -2);
        Due.is("never, without a RULE", Due.told(TWO).nobody(), -2);
        Due.is("all LACK it", Due.told("village 1;person 0 0 0;letter 0;letter 1").nobody(), 1);
        Due.is("without LETTERS", Due.told("village 1;person 1 0 0", "claim 1").nobody(), 0);
        Due.is("without PEOPLE", Due.told("village 1;letter 0", "claim 1").nobody(), 0);
    }

    private static void nobodyRefused() {
        Due.sentence("26", "NONE without a VILLAGE.");
        Due.is("NOBODY", new DoorLetters().nobody(), -1);
    }

    // ---- promise 27

    private static void often1To100() {
        Due.sentence("27", "OFTEN n DAYS (1 to 100): who CLAIMS most often in these");
        DoorLetters x = Due.told(TWO, "claim 1 if person = 1 and day < 1; claim 1 if person = 0 and day > 98",
            "claim 1 if person = 1 and day > 48; claim 1 if person = 0 and day < 49");
        Due.is("1 DAY", x.often(1, 0) * 10 + x.often(1, 1), 11);
        Due.is("99 DAYS", x.often(99, 0) * 10 + x.often(99, 1), 11);
        Due.is("100 DAYS, one each", x.often(100, 0) * 10 + x.often(100, 1), 1);
        x.force(1);
        Due.is("97 DAYS", x.often(97, 0) * 100 + x.often(97, 1), 49);
        Due.is("98 DAYS, 49 each", x.often(98, 0) * 100 + x.often(98, 1), 49);
        Due.is("99 DAYS", x.often(99, 0) * 100 + x.often(99, 1), 150);
        Due.is("100 DAYS", x.often(100, 0) * 100 + x.often(100, 1), 151);
    }

    private static void oftenTheLeast() {
        Due.sentence("27", "of several the least; how often");
        String seven = "village 1" + ";person 0 0 0".repeat(7) + ";letter 0";
        DoorLetters x = Due.told(seven, "claim 1 if person = 6 - day % 7", "claim 1 if person = 6", "claim 0");
        Due.is("one each", x.often(7, 0) * 10 + x.often(7, 1), 1);
        Due.is("one each of 2 to 6", x.often(5, 0) * 10 + x.often(5, 1), 21);
        DoorLetters y = Due.told("village 1;person 0 0 0;person 1 0 0;letter 1");
        Due.is("who LACKS nothing", y.often(100, 0) * 1000 + y.often(100, 1), 1100);
        x.force(1);
        Due.is("the last of all", x.often(100, 0) * 1000 + x.often(100, 1), 6100);
        x.force(2);
        Due.is("none", x.often(100, 0) * 1000 + x.often(100, 1), 0);
    }

    private static void oftenWithoutPeople() {
        Due.sentence("27", "OFTEN what 0: who (-2: there are no PEOPLE), 1: how often.");
        DoorLetters x = Due.told("village 1;letter 0");
        Due.is("who", x.often(100, 0), -2);
        Due.is("how often", x.often(100, 1), 0);
        Due.is("without LETTERS", Due.told("village 1;person 0 0 0", "claim 1").often(1, 0), 0);
        Due.is("without LETTERS", Due.told("village 1;person 0 0 0", "claim 1").often(1, 1), 0);
    }

    private static void oftenRefused() {
        Due.sentence("27", "NONE without these, or a VILLAGE.");
        DoorLetters x = Due.told(TWO);
        for (int what = 0; what < 2; what++) {
            for (int wrong : new int[] {0, 101, -1, Integer.MIN_VALUE, Integer.MAX_VALUE}) {
                Due.is("DAYS " + wrong, x.often(wrong, what), -1);
            }
            Due.is("without a VILLAGE", new DoorLetters().often(1, what), -1);
        }
        Due.is("what 2", x.often(1, 2), -1);
        for (int wrong : FAR) {
            Due.is("what " + wrong, x.often(1, wrong), -1);
        }
    }

    // ---- promise 28

    private static void start1To40() {
        Due.sentence("28", "START for n DAYS (1 to 40)");
        // whoever is asked first CLAIMS it. LETTER 0, of DAYS 0, 2 and on, fits PERSON 0; LETTER 1 fits PERSON 1
        DoorLetters x = Due.told("village 2;person 1 0 0;person 2 0 0;letter 1;letter 2", "claim 1",
            "claim 1 if day < 39; claim person", "claim 1 if person = 1 and day = 39; claim 1 if lacks = 1");
        Due.is("1 DAY", x.start(1, 0) * 100 + x.start(1, 1), 1);
        Due.is("40 DAYS", x.start(40, 0) * 100 + x.start(40, 1), 20);
        x.force(1);
        Due.is("39 DAYS", x.start(39, 0) * 100 + x.start(39, 1), 20);
        // on DAY 39 PERSON 1 CLAIMS what fits them, wherever rounds BEGIN
        Due.is("40 DAYS", x.start(40, 0) * 100 + x.start(40, 1), 21);
        x.day();
        Due.is("from now on", x.start(1, 0) * 100 + x.start(1, 1), 101);
        x.force(2);
        Due.is("39 DAYS from DAY 1 on", x.start(39, 1), 1);
        Due.is("38 DAYS from DAY 1 on", x.start(38, 1), 0);
    }

    private static void startAsItIs() {
        Due.sentence("28", "of several as it is, then the least: which; how many");
        DoorLetters x = Due.told("village 1;person 0 0 0;person 1 0 0;person 0 0 0;person 1 0 0;letter 1", "claim 1");
        Due.is("the least of 1 and 3", x.start(40, 0), 1);
        x.begin(2);
        Due.is("the least of 1 and 3", x.start(40, 0), 1);
        x.begin(3);
        Due.is("as it is", x.start(40, 0) * 100 + x.start(40, 1), 340);
        x.begin(1);
        Due.is("as it is", x.start(1, 0) * 100 + x.start(1, 1), 101);
        DoorLetters y = Due.told("village 1" + ";person 0 0 0".repeat(7) + ";letter 1", "claim 1");
        for (int person = 6; person >= 0; person--) {
            y.begin(person);
            Due.is("none better than as it is", y.start(5, 0) * 10 + y.start(5, 1), person * 10);
        }
    }

    private static void startWhoLacksNothing() {
        Due.sentence("28", "on most of these the LETTER of the DAY is CLAIMED by one who LACKS nothing for it then (DAYS "
            + "are counted, a LETTER as often)");
        Due.is("one LETTER, 40 DAYS", Due.told(TWO).start(40, 1), 40);
        Due.is("CLAIMED by one who LACKS one of eight", Due.told("village 8;person 127 0 0;letter 255", "claim 1").start(40, 1), 0);
        Due.is("CLAIMED by nobody", Due.told(TWO, "claim 0").start(40, 1), 0);
        Due.is("a LETTER that CLAIMS nothing", Due.told("village 1;person 0 0 0;letter 0", "claim 1").start(40, 1), 40);
        Due.is("every third DAY", Due.told("village 1;person 0 0 0;letter 0;letter 1;letter 1", "claim 1").start(40, 1), 14);
    }

    private static void startWithoutPeople() {
        Due.sentence("28", "START what 0: which (-2: there are no PEOPLE), 1: how many.");
        DoorLetters x = Due.told("village 1;letter 0");
        Due.is("which", x.start(40, 0), -2);
        Due.is("how many", x.start(40, 1), 0);
        Due.is("without LETTERS", Due.told("village 1;person 0 0 0", "claim 1").start(1, 0), 0);
        Due.is("without LETTERS", Due.told("village 1;person 0 0 0", "claim 1").start(1, 1), 0);
    }

    private static void startRefused() {
        Due.sentence("28", "NONE without these, or a VILLAGE.");
        DoorLetters x = Due.told(TWO);
        for (int what = 0; what < 2; what++) {
            for (int wrong : new int[] {0, 41, -1, Integer.MIN_VALUE, Integer.MAX_VALUE}) {
                Due.is("DAYS " + wrong, x.start(wrong, what), -1);
            }
            Due.is("without a VILLAGE", new DoorLetters().start(1, what), -1);
        }
        Due.is("what 2", x.start(1, 2), -1);
        for (int wrong : FAR) {
            Due.is("what " + wrong, x.start(1, wrong), -1);
        }
    }

    // ---- promise 31

    /** For 60 DAYS the SHAME of one or the other is 1 more; from DAY 60 on all is as it was. */
    private static DoorLetters unlikeTill60() {
        return Due.told("village 1;person 0 0 0;person 0 0 0;letter 1", "claim 1 if person = 0 and shame < 30;claim person");
    }

    private static void alikeFirstOf60() {
        Due.sentence("31", "ALIKE: the first DAY, this one the first, of 60");
        DoorLetters x = unlikeTill60();
        Due.is("DAY 60 would be the 61st", x.alike(0), -2);
        Due.is("DAY 60 would be the 61st", x.alike(1), -2);
        x.day();
        Due.is("DAY 60 is the 60th", x.alike(0), 60);
        Due.is("and 61 the first like it", x.alike(1), 1);
        DoorLetters y = Due.told("village 1;person 1 0 0;letter 1");
        y.day();
        y.day();
        Due.is("this one", y.alike(0) * 10 + y.alike(1), 21);
    }

    private static void alike60Later() {
        Due.sentence("31", "as at the begin of a later one, 60 DAYS from now at most; how much later the first such is");
        // PERSON 0 has 1 SHAME from DAY 0 on, none any more from an odd DAY on
        String two = "village 1;person 0 0 0;person 1 0 0;letter 1;letter 0";
        String rule = "claim 1 if person = 0 and [day = 0 or day = 59];claim person";
        DoorLetters x = Due.told(two, rule, rule.replace("59", "61"), rule.replace("59", "57"));
        Due.is("DAY 60 is like DAY 0", x.alike(0) * 100 + x.alike(1), 60);
        x.force(1);
        Due.is("DAY 62 would be: so DAY 3 like DAY 1", x.alike(0) * 100 + x.alike(1), 102);
        x.force(2);
        Due.is("DAYS 58 and 60 are like DAY 0", x.alike(0) * 100 + x.alike(1), 58);
    }

    private static void alikeInAllThatIsNamed() {
        Due.sentence("31", "the LETTER, what all LIVED, their PRIDE and SHAME, and what is PINNED are as at the begin of "
            + "a later one");
        DoorLetters ten = Due.told("village 1;person 1 0 0" + ";letter 1".repeat(10));
        Due.is("the LETTER, of ten", ten.alike(0) * 100 + ten.alike(1), 10);
        DoorLetters pride = Due.told("village 1;person 1 9 0;letter 1", "claim 0");
        Due.is("PRIDE 9 less 9; then PINNED as well", pride.alike(0) * 100 + pride.alike(1), 901);
        DoorLetters last = Due.told("village 1" + ";person 0 0 0".repeat(6) + ";person 1 9 0;letter 1;letter 0",
            "claim 1 if person = 6 and letter = 1; claim 1 if person = 0 and letter = 0 and shame < 30;claim 1 if person = 1 and letter = 0");
        Due.is("SHAME of 0, then of 1", last.alike(0), -2);
        DoorLetters shame = Due.told("village 1;person 1 0 9;letter 1", "claim 1");
        Due.is("SHAME 9 less 9", shame.alike(0) * 100 + shame.alike(1), 901);
        DoorLetters pinned = Due.told("village 1;person 0 0 0" + ";letter 1".repeat(5), "claim 0");
        Due.is("PINNED, of five", pinned.alike(0) * 100 + pinned.alike(1), 505);
        // LETTER 0 is PINNED on DAY 10: DAY 7, when SHAME is gone, is unlike DAY 17
        DoorLetters both = Due.told("village 1;person 1 0 7" + ";letter 1".repeat(10), "claim 10 - day if letter = 0; claim 1");
        Due.is("SHAME, the LETTER and PINNED", both.alike(0) * 100 + both.alike(1), 1110);
        DoorLetters two = Due.told("village 1;person 0 9 0;person 0 9 0;letter 1", "claim 1");
        Due.is("SHAME of one, PRIDE of all", two.alike(0) * 100 + two.alike(1), 3001);
        // what they HAVE is not named
        DoorLetters has = Due.told("village 1;person 1 0 0;letter 1");
        Due.is("HAS", has.alike(0) * 100 + has.alike(1), 1);
        DoorLetters none = Due.told("village 1;person 1 9 9");
        Due.is("without LETTERS", none.alike(0) * 100 + none.alike(1), 1);
        DoorLetters nobody = Due.told("village 1;letter 1");
        Due.is("without PEOPLE: PINNED", nobody.alike(0) * 100 + nobody.alike(1), 101);
    }

    private static void alikeNone() {
        Due.sentence("31", "ALIKE what 0: the DAY, 1: how much later; -2: there is none.");
        DoorLetters x = unlikeTill60();
        Due.is("the DAY", x.alike(0), -2);
        Due.is("how much later", x.alike(1), -2);
        for (int i = 0; i < 60; i++) {
            x.day();
        }
        Due.is("now", x.alike(0) * 10 + x.alike(1), 601);
    }

    private static void alikeRefused() {
        Due.sentence("31", "NONE for others, or without a VILLAGE.");
        DoorLetters x = Due.told(TWO);
        Due.is("what 2", x.alike(2), -1);
        for (int wrong : FAR) {
            Due.is("what " + wrong, x.alike(wrong), -1);
        }
        Due.is("without a VILLAGE", new DoorLetters().alike(0), -1);
        Due.is("without a VILLAGE", new DoorLetters().alike(1), -1);
    }

    // ---- promise 36 and DRAWS

    private static void seedOfAllNumbers() {
        Due.sentence("36", "x becomes a number: what it was");
        DoorLetters x = new DoorLetters();
        Due.is("0 at first", x.seed(0), 0);
        Due.is("0", x.seed(2147483647), 0);
        Due.is("the most", x.seed(1), 2147483647);
        Due.is("1", x.count(12), 1);
    }

    private static void seedBelow0() {
        Due.sentence("36", "NONE, and nothing happens, below 0.");
        DoorLetters x = new DoorLetters();
        x.seed(7);
        Due.is("-1", x.seed(-1), -1);
        Due.is("the least", x.seed(Integer.MIN_VALUE), -1);
        Due.is("nothing happens", x.count(12), 7);
    }

    private static final class Draws {
        private long x;

        Draws(int x) {
            this.x = x;
        }

        int next() {
            x = (x * 1103515245 + 12345) % 2147483648L;
            return (int) (x / 65536);
        }
    }

    /** On how many DAYS a LETTER that CLAIMS nothing is made to CLAIM a MATTER of which none of these LIVED. */
    private static int rained(int seed, int days, int p, int matters, int lived) {
        Draws draws = new Draws(seed);
        int rained = 0;
        for (int day = 0; day < days; day++) {
            if (draws.next() % 100 < p && (lived >> draws.next() % matters & 1) == 0) {
                rained++;
            }
        }
        return rained;
    }

    private static void drawsGoRound() {
        Due.sentence("37", "x (0 to 2147483647; 0 at first) becomes x * 1103515245 + 12345, of 2147483648 the rest; a "
            + "DRAW is x / 65536.");
        // from 0: 12345, a DRAW of 0, which is below 1; then 1406932606, a DRAW of 21468
        DoorLetters first = Due.told("village 8;person 0 0 0;letter 0", "claim lacks");
        Due.is("0 is below 1", first.rains(1, 1, 1, 0), 1);
        Due.is("21468 mod 8 is MATTER 4", Due.told("village 8;person 16 0 0;letter 0", "claim lacks").rains(1, 1, 1, 0), 0);
        Due.is("21468 mod 7 is MATTER 6", Due.told("village 7;person 64 0 0;letter 0", "claim lacks").rains(1, 1, 1, 0), 0);
        DoorLetters x = Due.told("village 1;person 0 0 0;letter 0", "claim lacks");
        for (int seed : new int[] {0, 1, 2, 65535, 65536, 1073741823, 1073741824, 1103515245, 2147483646, 2147483647}) {
            x.seed(seed);
            for (int p = 10; p < 100; p += 27) {
                Due.is("from " + seed + " below " + p, x.rains(1, 60, p, 0), rained(seed, 60, p, 1, 0));
            }
            Due.is("x as it was", x.count(12), seed);
        }
    }

    // ---- promise 37

    private static void rainBelowP() {
        Due.sentence("37", "ahead of each DAY a DRAW mod 100; is it below p (0 to 100)");
        DoorLetters x = Due.told("village 1;person 0 0 0;letter 0", "claim lacks");
        Due.is("never below 0", x.rains(10, 60, 0, 0), 0);
        Due.is("always below 100", x.rains(10, 60, 100, 0), 600);
        for (int p = 1; p < 100; p += 7) {
            Due.is("below " + p, x.rains(1, 60, p, 0), rained(0, 60, p, 1, 0));
        }
        // the first x that draws 99 of 100, and 98
        for (int due = 98; due <= 99; due++) {
            int seed = 0;
            while (new Draws(seed).next() % 100 != due) {
                seed++;
            }
            x.seed(seed);
            Due.is(due + " below 99", x.rains(1, 1, 99, 0), 99 - due);
            Due.is(due + " below 100", x.rains(1, 1, 100, 0), 1);
            Due.is(due + " below 98", x.rains(1, 1, 98, 0), 0);
        }
    }

    private static void rainOnAMatter() {
        Due.sentence("37", "a DRAW mod MATTERS: on this DAY the LETTER CLAIMS that one");
        for (int matters = 1; matters <= 8; matters++) {
            for (int matter = 0; matter < matters; matter++) {
                DoorLetters x = Due.told("village " + matters + ";person " + (1 << matter) + " 0 0;letter 0", "claim lacks");
                x.seed(matters * 1000 + matter);
                Due.is(matter + " of " + matters, x.rains(1, 60, 60, 0), rained(matters * 1000 + matter, 60, 60, matters,
                    1 << matter));
            }
        }
        // on this DAY: not as told, nor on the next one
        DoorLetters x = Due.told("village 1;person 0 0 0;letter 0", "claim lacks");
        x.rains(10, 60, 100, 0);
        Due.is("as told", x.letter(0, 0), 0);
        Due.is("no rain", x.rains(1, 60, 0, 0), 0);
    }

    private static void rainOrNot() {
        Due.sentence("37", "or, if it did, does not");
        DoorLetters x = Due.told("village 1;person 0 0 0;letter 1", "claim 1");
        Due.is("it does not", x.rains(1, 60, 100, 1), 0);
        Due.is("it did", x.rains(1, 60, 0, 1), 30);
        // all but one: seven of eight are LACKED each DAY
        DoorLetters y = Due.told("village 8;person 0 0 0;letter 255", "claim 1");
        Due.is("one of eight", y.rains(1, 1, 100, 1), 7);
        DoorLetters z = Due.told("village 8;person 0 0 0;letter 0", "claim 1");
        Due.is("one", z.rains(1, 1, 100, 1), 1);
    }

    private static void rainEachFromNowOn() {
        Due.sentence("37", "RAINS m times (1 to 10; each from now on, as all is; x goes on) n DAYS (1 to 60)");
        DoorLetters x = Due.told("village 1;person 0 0 9;person 1 0 0;letter 0", "claim lacks");
        Due.is("1 time, 1 DAY", x.rains(1, 1, 100, 0) * 100 + x.rains(1, 1, 100, 1), 110);
        Due.is("10 times, 1 DAY: each from 9 on", x.rains(10, 1, 100, 0) * 1000 + x.rains(10, 1, 100, 1), 10100);
        Due.is("10 times, 60 DAYS: each to 30", x.rains(10, 60, 100, 0) * 1000 + x.rains(10, 60, 100, 1), 600300);
        Due.is("x goes on: 10 times 6 DAYS are 60", x.rains(10, 6, 50, 0), rained(0, 60, 50, 1, 0));
        Due.is("x goes on: 60 DAYS", x.rains(1, 60, 50, 0), rained(0, 60, 50, 1, 0));
        Due.is("x goes on: 10 times 60 DAYS", x.rains(10, 60, 50, 0), rained(0, 600, 50, 1, 0));
        Due.is("x as it was", x.count(12), 0);
        Due.is("SHAME as it was", x.count(9), 9);
        Due.is("without LETTERS", Due.told("village 1;person 0 0 9").rains(10, 60, 100, 0), 0);
        Due.is("without LETTERS", Due.told("village 1;person 0 0 9").rains(10, 60, 100, 1), 90);
        Due.is("without PEOPLE", Due.told("village 1;letter 0").rains(10, 60, 100, 0), 0);
    }

    private static void rainRefused() {
        Due.sentence("37", "RAINS what 0: how many, 1: SHAME. NONE without these, or a VILLAGE.");
        DoorLetters x = Due.told(TWO);
        for (int what = 0; what < 2; what++) {
            Due.is("0 times", x.rains(0, 1, 1, what), -1);
            Due.is("11 times", x.rains(11, 1, 1, what), -1);
            Due.is("0 DAYS", x.rains(1, 0, 1, what), -1);
            Due.is("61 DAYS", x.rains(1, 61, 1, what), -1);
            Due.is("below 101", x.rains(1, 1, 101, what), -1);
            for (int wrong : FAR) {
                Due.is("times " + wrong, x.rains(wrong, 1, 1, what), -1);
                Due.is("DAYS " + wrong, x.rains(1, wrong, 1, what), -1);
                Due.is("below " + wrong, x.rains(1, 1, wrong, what), -1);
            }
            Due.is("without a VILLAGE", new DoorLetters().rains(1, 1, 0, what), -1);
        }
        Due.is("what 2", x.rains(1, 1, 0, 2), -1);
        for (int wrong : FAR) {
            Due.is("what " + wrong, x.rains(1, 1, 0, wrong), -1);
        }
        Due.is("x", x.count(12), 0);
    }

    private static void nothingChanges() {
        Due.sentence("24 to 28, 31, 37", "by what is asked nothing changes");
        DoorLetters x = Due.told("village 2;person 1 5 5;person 0 5 5;letter 3;letter 0", "claim person");
        x.day();
        x.seed(9);
        String was = Due.all(x);
        for (int what = -1; what < 4; what++) {
            x.ahead(0, 100, what);
            x.often(100, what);
            x.start(40, what);
            x.alike(what);
            x.rains(10, 60, 50, what);
        }
        x.first(0);
        x.nobody();
        Due.is("as it was", Due.all(x).equals(was) ? 1 : 0, 1);
    }
}
