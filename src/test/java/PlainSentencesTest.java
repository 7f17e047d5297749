/** Sentence by sentence, what the document tells beside its edges, by ordinary inputs worked out by hand. */
public final class PlainSentencesTest {
    private static final String TWO = "village 1;person 1 0 0;person 1 0 0;letter 1";

    public static void main(String[] args) {
        constants();
        sumsAndTerms();
        wordsOfOneWhoReads();
        faultsAlongTheText();
        villageTellsPeople();
        readOneByOne();
        firstClauseThatHolds();
        acts();
        fitsAsTheWords();
        whoseIsEither();
        askByWhatWasAnswered();
        knowIsEither();
        pairsOfAPerson();
        wayOfAllOrders();
        joinIsEither();
        restsOfTwo();
        aheadIsEither();
        startFromNowOn();
        livesAsSets();
        ruledIsEither();
        alikeAtTheirBegin();
        lookTellsHowMany();
        rainsOverAllTimes();
        Due.end("PlainSentencesTest");
    }

    private static void constants() {
        Due.sentence("1", "The constants: `NONE = -1`: None.");
        Due.is("NONE", DoorLetters.NONE, -1);
    }

    // ---- texts

    /** Three numbers, so that no other one is meant. */
    private static void sumIs(String sum, int due) {
        for (int number = due - 1; number <= due + 1; number++) {
            DoorLetters x = Due.told("village 1;person 0 0 0;letter 0", "claim 1 if " + sum + " = " + number);
            Due.is(sum + " = " + number, x.day(), number == due ? 0 : -2);
        }
    }

    private static void sumsAndTerms() {
        Due.sentence("5", "SUM: TERM { (+ or -) TERM }. TERM: VALUE { (* or / or %) VALUE }. VALUE: NUMBER");
        sumIs("1 + 2 * 3", 7);
        sumIs("2 * 3 + 1", 7);
        sumIs("9 - 3 - 2", 4);
        sumIs("9 - 3 + 2", 8);
        sumIs("48 / 4 / 3", 4);
        sumIs("48 / 4 * 3", 36);
        sumIs("9 / 2 * 2", 8);
        sumIs("17 % 10 * 2", 14);
        sumIs("17 * 2 % 10", 4);
        sumIs("100 - 7 * 3 % 4 + 1", 100);
        sumIs("5 - 2 * 2 / 3 + 6 % 4 * 2", 8);
        sumIs("7", 7);
    }

    /** PERSON 2 on DAY 6, whose LETTER 1 is read ahead of them by PERSON 1. */
    private static DoorLetters onDay6(String rule) {
        DoorLetters x = Due.told("village 8;person 0 9 0;person 0 9 0;person 15 3 9;letter 0;letter 248;letter 0;letter 0;letter 0",
            "claim 1 if person = 2 and day < 3", rule);
        for (int day = 0; day < 6; day++) {
            Due.is("DAY " + day, x.day(), day < 3 ? 2 : -2);
        }
        x.give(3, 2);
        x.give(4, 2);
        x.begin(1);
        x.force(1);
        return x;
    }

    private static void wordsOfOneWhoReads() {
        Due.sentence("5", ", lacks (how many it CLAIMS that they have not), beyond (how many they LIVED that it does not "
            + "CLAIM), pride, shame, seen (how many read it ahead of them)");
        // SHAME 9: 1 less on DAYS 0 and 2, 4 more on DAY 1; on DAYS 3, 4 and 5 they let by what they LACK nothing for
        String[] words = {"person", "fits", "lacks", "beyond", "pride", "shame", "seen", "has", "letter", "day"};
        int[] due = {2, 1, 4, 3, 0, 11, 1, 5, 1, 6};
        for (int i = 0; i < words.length; i++) {
            for (int number = Math.max(0, due[i] - 1); number <= due[i] + 1; number++) {
                DoorLetters x = onDay6("claim 1 if person = 2 and " + words[i] + " = " + number);
                Due.is(words[i] + " = " + number, x.day(), number == due[i] ? 2 : -2);
            }
        }
    }

    private static void faultsAlongTheText() {
        Due.sentence("4 and 5", "FAULTS, the first along the text, 1 + 8 * its place and: 0 a byte or WORD that can't stand there");
        Due.villageFault("village |0;person x", 1);
        Due.villageFault("village 2;person |x 77 77", 0);
        Due.villageFault("village 2;person 1 |77 x", 1);
        Due.villageFault("village 2;letter 3;|village 0", 4);
        Due.ruleFault("claim |];claim 100000", 0);
        Due.ruleFault("claim |100000;claims", 1);
        Due.ruleFault("claim 1 if not not not not not not not not not not |not ]", 2);
        Due.ruleFault("claim 1" + "+1".repeat(59) + "+|day;claim", 3);
    }

    private static void villageTellsPeople() {
        Due.sentence("4", ": how many PEOPLE; -2 - its FAULT");
        for (int people = 0; people <= 7; people++) {
            Due.villageStands("village 1" + ";person 0 0 0".repeat(people) + ";letter 0;letter 1;letter 0", people);
        }
        // the 5 stands at 8, the first place of all is 0
        Due.is("FAULT 0 at 0", Due.village(new DoorLetters(), "Village 5"), -3);
        Due.is("FAULT 4 at 0", Due.village(new DoorLetters(), "letter 5"), -7);
        Due.is("FAULT 1 at 8", Due.village(new DoorLetters(), "village 9"), -68);
    }

    // ---- DAYS and ACTS

    private static void readOneByOne() {
        Due.sentence("9", "it is read by all PEOPLE, one by one, from the one at whom rounds BEGIN on, upwards, behind the "
            + "last one PERSON 0, till one CLAIMS it");
        DoorLetters x = Due.told("village 1" + ";person 1 9 0".repeat(5) + ";letter 1", "claim 1 if seen = 3", "claim 0");
        x.begin(3);
        // 3, 4 and 0 let it by, 1 CLAIMS it, 2 doesn't read it
        Due.is("who CLAIMS it", x.day(), 1);
        int[] pride = {8, 9, 9, 8, 8};
        for (int person = 0; person < 5; person++) {
            Due.is("PRIDE of " + person, x.person(person, 1), pride[person]);
        }
        x.force(1);
        Due.is("by all PEOPLE", x.day(), -2);
        for (int person = 0; person < 5; person++) {
            Due.is("PRIDE of " + person, x.person(person, 1), pride[person] - 1);
        }
    }

    private static void firstClauseThatHolds() {
        Due.sentence("9", "for whom the SUM of the RULE IN FORCE's first CLAUSE without a TEST, or whose TEST holds (0 "
            + "without), is above 0");
        String four = "village 1" + ";person 0 0 0".repeat(4) + ";letter 1";
        Due.is("0, 0, 1", Due.told(four, "claim 0 if person = 0;claim person - 1 if person < 3;claim 9").day(), 2);
        Due.is("the first alone", Due.told(four, "claim 0;claim 1").day(), -2);
        Due.is("behind TESTS that don't hold", Due.told(four, "claim 0 if day > 0;claim 1").day(), 0);
        Due.is("none holds", Due.told(four, "claim 5 if person > 3;claim 5 if person > 4").day(), -2);
        Due.is("the third", Due.told(four, "claim 0 if person < 1;claim 0 if person < 2;claim person;claim 7").day(), 2);
        Due.is("below 0", Due.told(four, "claim person - 3 if person < 3;claim 1").day(), 3);
    }

    private static void acts() {
        Due.sentence("10 to 14", "ACTS: a DAY; BEGIN (rounds BEGIN at another PERSON); LIVE (a PERSON has LIVED a MATTER, or, "
            + "if they had, has not); GIVE (a LETTER that is PINNED is so no more, a PERSON HAS 1 more");
        DoorLetters x = Due.told("village 3;person 4 0 2;person 1 0 0;letter 2;letter 3");
        Due.is("a DAY", x.day(), -2);
        Due.is("another PERSON", x.begin(1), 0);
        Due.is("has LIVED", x.live(0, 1), 6);
        Due.is("has not", x.live(0, 2), 2);
        Due.is("another one's are as they were", x.person(1, 0), 1);
        Due.is("PINNED", x.letter(0, 1), 1);
        Due.is("1 more", x.give(0, 1), 1);
        Due.is("no more", x.letter(0, 1), 0);
        Due.is("nobody else", x.person(0, 3), 0);
        Due.is("ACTS", x.count(11), 5);
        Due.sentence("13 and 14", "; HUSH (a PERSON who has any SHAME has none). The last 20 can be UNDONE, the last first.");
        Due.is("SHAME", x.hush(0), 2);
        Due.is("none", x.person(0, 2), 0);
        Due.is("HUSH is UNDONE", x.undo() * 10 + x.person(0, 2), 52);
        Due.is("GIVE is UNDONE", x.undo() * 100 + x.person(1, 3) * 10 + x.letter(0, 1), 401);
        Due.is("LIVE is UNDONE", x.undo() * 10 + x.person(0, 0), 36);
        Due.is("LIVE is UNDONE", x.undo() * 10 + x.person(0, 0), 24);
        Due.is("BEGIN is UNDONE", x.undo() * 10 + x.count(6), 10);
        Due.is("the DAY is UNDONE", x.undo() * 100 + x.count(5) * 10 + x.count(7), 0);
    }

    // ---- AS ALL IS NOW

    private static void fitsAsTheWords() {
        Due.sentence("15", ": FITS, LACKS, BEYOND of a PERSON for a LETTER, as the WORDS.");
        String[] words = {"fits", "lacks", "beyond"};
        // LIVED 0, 1, 2, 3; CLAIMED 3, 4
        int[] due = {1, 1, 3};
        for (int what = 0; what < 3; what++) {
            DoorLetters x = Due.told("village 5;person 15 0 0;letter 24", "claim 1 if " + words[what] + " = " + due[what]);
            Due.is(words[what], x.fits(0, 0, what), due[what]);
            Due.is("the WORD " + words[what], x.way(0, 0), 1);
        }
    }

    private static void whoseIsEither() {
        Due.sentence("16", "WHOSE what 0: who LACK nothing, 1: who LACKS least");
        DoorLetters x = Due.told("village 3;person 1 0 0;person 7 0 0;person 3 0 0;letter 3;letter 7");
        Due.is("LETTER 0: 1 and 2, who is BEYOND by less", x.whose(0, 0) * 10 + x.whose(0, 1), 62);
        Due.is("LETTER 1: 1", x.whose(1, 0) * 10 + x.whose(1, 1), 21);
        x.live(1, 0);
        Due.is("LETTER 1: nobody, both LACK one", x.whose(1, 0) * 10 + x.whose(1, 1), 1);
    }

    private static void askByWhatWasAnswered() {
        Due.sentence("17", "ASK of a set of PEOPLE (as bits, one at least): questions whether one has LIVED a MATTER are put, "
            + "each by what was answered so far");
        // MATTER 0 parts 0 and 1 from 2 and 3; then MATTER 1 parts the ones, MATTER 2 the others
        DoorLetters x = Due.told("village 3;person 0 0 0;person 2 0 0;person 1 0 0;person 5 0 0");
        Due.is("two, though three MATTERS are needed", x.ask(15, 0) * 10 + x.know(0), 23);
        Due.is("first MATTER 0", x.ask(15, 1), 0);
        Due.is("of 0 and 1 MATTER 1", x.ask(3, 0) * 10 + x.ask(3, 1), 11);
        Due.is("of 2 and 3 MATTER 2", x.ask(12, 0) * 10 + x.ask(12, 1), 12);
        Due.is("of 0, 1 and 3 two, from MATTER 0 on", x.ask(11, 0) * 10 + x.ask(11, 1), 20);
        Due.is("of 1 and 3 any", x.ask(10, 0) * 10 + x.ask(10, 1), 10);
    }

    private static void knowIsEither() {
        Due.sentence("18", "KNOW what 0: how many, 1: the set.");
        DoorLetters x = Due.told("village 4;person 1 0 0;person 5 0 0;person 13 0 0;person 5 0 0");
        Due.is("MATTERS 2 and 3", x.know(0) * 100 + x.know(1), 212);
        x.live(2, 2);
        Due.is("5 and 9: MATTERS 2 and 3 still, by 1", x.know(0) * 100 + x.know(1), 212);
        x.live(0, 2);
        Due.is("5 and 9 alone: MATTER 2", x.know(0) * 100 + x.know(1), 104);
    }

    private static void pairsOfAPerson() {
        Due.sentence("19", ": how many; the LETTER of a PERSON.");
        DoorLetters x = Due.told("village 2;person 3 0 0;person 1 0 0;person 0 0 0;letter 1;letter 2");
        Due.is("how many", x.pairs(-1), 2);
        Due.is("PERSON 0 LACKS nothing for either", x.pairs(0), 1);
        Due.is("PERSON 1 for LETTER 0 alone", x.pairs(1), 0);
        Due.is("PERSON 2 for none", x.pairs(2), -1);
    }

    private static void wayOfAllOrders() {
        Due.sentence("21", "WAY of a LETTER: of all orders in which it could be read");
        String three = "village 1;person 0 0 0;person 0 0 0;person 0 0 0;letter 1;letter 0";
        DoorLetters x = Due.told(three, "claim 1 if person = 1 and seen = 2", "claim 1 if person = 2", "claim letter");
        Due.is("the last of three", x.way(0, 0), 3);
        Due.sentence("21", ": how many; who CLAIMS it.");
        Due.is("the last of three", x.way(0, 0) * 10 + x.way(0, 1), 31);
        x.force(1);
        Due.is("PERSON 2 at once, though rounds BEGIN at 0", x.way(0, 0) * 10 + x.way(0, 1), 12);
        x.force(2);
        Due.sentence("21", "WAY what 0: how many, 1: who;");
        Due.is("LETTER 1 is anybody's", x.way(1, 0) * 10 + x.way(1, 1), 10);
        Due.is("LETTER 0 is nobody's", x.way(0, 0) * 10 + x.way(0, 1), -22);
    }

    private static void joinIsEither() {
        Due.sentence("22", "JOIN what 0: how many, 1: the set of LETTERS;");
        DoorLetters x = Due.told("village 4;person 0 9 9;letter 1;letter 3;letter 6;letter 8", "claim 0");
        for (int day = 0; day < 4; day++) {
            x.day();
        }
        Due.is("LETTERS 0 and 2, or 1 and 2", x.join(7, 0) * 100 + x.join(7, 1), 205);
        Due.is("1, 2 and 3, or 0, 2 and 3", x.join(15, 0) * 100 + x.join(15, 1), 313);
        x.give(0, 0);
        Due.is("1 and 2", x.join(7, 0) * 100 + x.join(7, 1), 206);
        Due.is("3 alone", x.join(8, 0) * 100 + x.join(8, 1), 108);
    }

    private static void restsOfTwo() {
        Due.sentence("23", "RESTS of two PEOPLE for a LETTER: each lets it by (0) or CLAIMS it (1): who lets it by has 0; who "
            + "alone CLAIMS it has FITS less LACKS, and their PRIDE more");
        DoorLetters x = Due.told("village 2;person 3 2 1;person 0 5 0;letter 3");
        // alone: 2 + 2, -2 + 5; both: 2, -1
        Due.is("one: 0 CLAIMS it", x.rests(0, 1, 0, 0) * 100 + x.rests(0, 1, 0, 1) * 10 + x.rests(0, 1, 0, 2), 110);
        Due.is("told the other way", x.rests(1, 0, 0, 0) * 100 + x.rests(1, 0, 0, 1) * 10 + x.rests(1, 0, 0, 2), 101);
        Due.sentence("23", ": twos of which neither would have more the other way: how many; the first (by the first one, then "
            + "the second one).");
        DoorLetters y = Due.told("village 3;person 1 3 0;person 0 4 0;letter 7");
        // alone: -1 + 3, -3 + 4; both: -1 and -1
        Due.is("either", y.rests(0, 1, 0, 0), 2);
        Due.is("first: 0 lets it by, 1 CLAIMS it", y.rests(0, 1, 0, 1) * 10 + y.rests(0, 1, 0, 2), 1);
        Due.is("first: 1 lets it by, 0 CLAIMS it", y.rests(1, 0, 0, 1) * 10 + y.rests(1, 0, 0, 2), 1);
        DoorLetters z = Due.told("village 1;person 0 0 0;person 0 1 0;letter 1");
        // alone: -1, -1 + 1
        Due.is("neither, or 1", z.rests(0, 1, 0, 0) * 100 + z.rests(0, 1, 0, 1) * 10 + z.rests(0, 1, 0, 2), 200);
    }

    // ---- how it goes on

    private static void aheadIsEither() {
        Due.sentence("24", "AHEAD what 0: how many, 1: SHAME,");
        DoorLetters x = Due.told("village 2;person 1 0 4;person 2 0 4;letter 1;letter 0;letter 3", "claim 2 - lacks - seen");
        // DAYS 0 and 1: PERSON 0 LACKS nothing; DAY 2: PERSON 0 LACKS one, 2 - 1 is above 0
        int[] has = {0, 1, 2, 3, 4};
        int[] shame = {4, 3, 2, 3, 2};
        for (int n = 0; n < 5; n++) {
            Due.is("HAS, " + n + " DAYS", x.ahead(0, n, 0), has[n]);
            Due.is("SHAME, " + n + " DAYS", x.ahead(0, n, 1), shame[n]);
            Due.is("the other one", x.ahead(1, n, 0) * 10 + x.ahead(1, n, 1), 4);
        }
    }

    private static void startFromNowOn() {
        Due.sentence("28", ": the PERSON at whom rounds had best BEGIN from now on, so that on most of these the LETTER of the "
            + "DAY is CLAIMED by one who LACKS nothing for it then");
        DoorLetters x = Due.told("village 2;person 0 0 0;person 1 0 0;person 3 0 0;letter 1;letter 2", "claim 1");
        Due.is("PERSON 2", x.start(7, 0) * 10 + x.start(7, 1), 27);
        x.live(2, 0);
        Due.is("LETTER 0 by 1, LETTER 1 by 2: on 7 DAYS the first is more", x.start(7, 0) * 10 + x.start(7, 1), 14);
        x.day();
        Due.is("from DAY 1 on LETTER 1 is", x.start(7, 0) * 10 + x.start(7, 1), 24);
        Due.is("rounds BEGIN as they did", x.count(6), 0);
    }

    private static void livesAsSets() {
        Due.sentence("29", "LIVES of a PERSON: sets of MATTERS as LIVED, in place of what the text told");
        DoorLetters x = Due.told("village 3;person 7 0 0;person 7 0 0;letter 5;letter 2");
        x.note(0, 1);
        Due.is("0 can't have LIVED both 0 and 2", x.lives(0, 0) * 10 + x.lives(0, 1), 60);
        Due.is("1, whatever they LIVED, comes behind 0", x.lives(1, 0) * 10 + x.lives(1, 1), -2);
        x.note(1, 0);
        Due.is("but 1", x.lives(0, 0) * 10 + x.lives(0, 1), 32);
    }

    private static void ruledIsEither() {
        Due.sentence("34", "RULED what 0: how many, 1: the first (NONE: none;");
        DoorLetters x = Due.told(TWO, "claim seen", "claim 1");
        Due.is("all three", x.ruled(0) * 10 + x.ruled(1), 29);
        x.note(2, 1);
        Due.is("RULE 0", x.ruled(0) * 10 + x.ruled(1), 10);
        x.note(-1, -1);
        x.note(2, 0);
        Due.is("none, and RULE 1", x.ruled(0) * 10 + x.ruled(1), 19);
    }

    private static void alikeAtTheirBegin() {
        Due.sentence("31", ", at whose begin the LETTER, what all LIVED, their PRIDE and SHAME");
        // DAYS 0 to 2 take the SHAME, DAY 3 the PRIDE of PERSON 1 who reads ahead: then all stays
        DoorLetters x = Due.told("village 1;person 1 0 3;person 0 0 0;letter 0", "claim 1 if person = 0");
        Due.is("at the begin of DAY 3", x.alike(0) * 10 + x.alike(1), 31);
        DoorLetters y = Due.told("village 1;person 1 0 3;person 0 4 0;letter 0", "claim 1 if person = 0");
        y.begin(1);
        Due.is("at the begin of DAY 4", y.alike(0) * 10 + y.alike(1), 41);
        Due.village(y, "village 1;person 1 0 3;person 0 4 0;letter 0;letter 0;letter 0");
        y.begin(1);
        Due.is("three LETTERS", y.alike(0) * 10 + y.alike(1), 43);
    }

    private static void lookTellsHowMany() {
        Due.sentence("35", ", of several the least; how many. DRAWS:");
        // DAY 0: 0, 0, 0, 0; DAY 1: 0, 0, 1, 1; DAY 2: 0, 0, 1, nobody; later again like DAY 0
        DoorLetters x = Due.told(TWO, "claim 1", "claim 1 if person = 1 or day < 1 or day > 2",
            "claim 1 if day < 1 or day > 2;claim 1 if person = 1 and day = 1");
        Due.is("DAY 1 and 2 part them alike", x.look(0) * 10 + x.look(1), 12);
        Due.rule(x, "claim 1 if day < 1 or day > 2;claim 1 if person = 1 and day = 1");
        Due.is("five: three alike, two alike", x.look(0) * 10 + x.look(1), 22);
    }

    private static void rainsOverAllTimes() {
        Due.sentence("37", ": how many are CLAIMED in these; how much SHAME all have at the end, together, both over all times (x as "
            + "it was).");
        DoorLetters x = Due.told("village 1;person 0 0 3;person 0 0 5;letter 1");
        x.seed(6);
        // each rain takes the one MATTER away: PERSON 0 LACKS nothing then, and CLAIMS it
        Due.is("3 times 2 DAYS of rain", x.rains(3, 2, 100, 0), 6);
        Due.is("3 times 1 and 5", x.rains(3, 2, 100, 1), 18);
        Due.is("4 times 7 DAYS without", x.rains(4, 7, 0, 0), 0);
        Due.is("4 times 3 and 5", x.rains(4, 7, 0, 1), 32);
        Due.is("x", x.count(12), 6);
        Due.is("all is as it was", x.count(5) + x.count(7) + x.person(0, 3), 0);
    }
}
