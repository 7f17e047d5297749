/** Sentence by sentence, the edges that the document names of what is asked AS ALL IS NOW: promises 15 to 23 and 32. */
public final class EdgesOfNowTest {
    private static final int[] FAR = {-1, 32, Integer.MIN_VALUE, Integer.MAX_VALUE};
    private static final String SEVEN_ALONE = "village 7;person 1 0 0;person 2 0 0;person 4 0 0;person 8 0 0;person 16 0 0"
        + ";person 32 0 0;person 64 0 0";

    public static void main(String[] args) {
        fitsNoneToAll();
        fitsRefused();
        whoLackNothing();
        whoIsNearest();
        whoseWithoutPeople();
        whoseRefused();
        askOneAtLeast();
        askOne();
        askTheFewestAtWorst();
        askTheLeastMatter();
        askTwoAlike();
        knowTheFewest();
        knowTheLeast();
        knowWhereNoneAreUnlike();
        knowRefused();
        pairsMost();
        pairsTheFirst();
        pairsNone();
        pairsRefused();
        bestMost();
        bestNothing();
        bestWithoutAVillage();
        wayOfFewest();
        wayOfSeveral();
        wayByNoOrder();
        wayRefused();
        joinFewest();
        joinTheLeast();
        joinNone();
        joinRefused();
        restsAlone();
        restsOfBoth();
        restsTheFirst();
        restsThereIsAlwaysOne();
        restsRefused();
        penceDownwards();
        penceLeft();
        penceOfNothing();
        penceRefused();
        nothingChanges();
        Due.end("EdgesOfNowTest");
    }

    // ---- promise 15

    private static void fitsNoneToAll() {
        Due.sentence("15", "Of a PERSON for a LETTER what 0: FITS, 1: LACKS, 2: BEYOND.");
        DoorLetters x = Due.told("village 8;person 255 0 0;person 0 0 0;letter 255;letter 0");
        int[][] due = {{8, 0, 0}, {0, 0, 8}, {0, 8, 0}, {0, 0, 0}};
        for (int pair = 0; pair < 4; pair++) {
            for (int what = 0; what < 3; what++) {
                Due.is(pair + ", what " + what, x.fits(pair / 2, pair % 2, what), due[pair][what]);
            }
        }
        DoorLetters y = Due.told("village 8" + ";person 1 0 0".repeat(6) + ";person 15 0 0" + ";letter 1".repeat(9) + ";letter 56");
        Due.is("the last of both", y.fits(6, 9, 0) * 100 + y.fits(6, 9, 1) * 10 + y.fits(6, 9, 2), 123);
    }

    private static void fitsRefused() {
        Due.sentence("15", "NONE without these.");
        DoorLetters x = Due.told("village 8;person 255 0 0;person 0 0 0;letter 255;letter 0");
        Due.is("what 3", x.fits(0, 0, 3), -1);
        Due.is("PERSON 2 of two", x.fits(2, 0, 0), -1);
        Due.is("LETTER 2 of two", x.fits(0, 2, 0), -1);
        for (int wrong : FAR) {
            Due.is("what " + wrong, x.fits(0, 0, wrong), -1);
            Due.is("PERSON " + wrong, x.fits(wrong, 0, 0), -1);
            Due.is("LETTER " + wrong, x.fits(0, wrong, 0), -1);
        }
        Due.is("without PEOPLE", Due.told("village 1;letter 0").fits(0, 0, 0), -1);
        Due.is("without LETTERS", Due.told("village 1;person 0 0 0").fits(0, 0, 0), -1);
        Due.is("without a VILLAGE", new DoorLetters().fits(0, 0, 0), -1);
    }

    // ---- promise 16

    private static void whoLackNothing() {
        Due.sentence("16", "WHOSE of a LETTER: those who LACK nothing, as bits");
        DoorLetters x = Due.told("village 8" + ";person 127 0 0".repeat(7) + ";letter 127;letter 128;letter 0");
        Due.is("all", x.whose(0, 0), 127);
        Due.is("none", x.whose(1, 0), 0);
        Due.is("a LETTER that CLAIMS nothing", x.whose(2, 0), 127);
        x.live(6, 7);
        Due.is("the last one", x.whose(1, 0), 64);
    }

    private static void whoIsNearest() {
        Due.sentence("16", "of all the one who LACKS least, of several who is least BEYOND, then the least");
        DoorLetters x = Due.told("village 8;person 0 0 0;person 254 0 0;person 255 0 0;person 3 0 0;person 3 0 0"
            + ";letter 1;letter 255;letter 4;letter 0");
        Due.is("least BEYOND, then the least", x.whose(0, 1), 3);
        Due.is("LACKS none", x.whose(1, 1), 2);
        Due.is("LACKS none, by one BEYOND less", x.whose(2, 1), 1);
        Due.is("nothing BEYOND", x.whose(3, 1), 0);
        Due.is("seven BEYOND", Due.told("village 8;person 0 0 0;person 255 0 0;letter 1").whose(0, 1), 1);
        DoorLetters y = Due.told("village 8;person 0 0 0;person 254 0 0;letter 3");
        Due.is("one LACKED, though six BEYOND", y.whose(0, 1), 1);
        DoorLetters z = Due.told("village 8;person 127 0 0;person 0 0 0;letter 128");
        Due.is("all LACK one: least BEYOND", z.whose(0, 1), 1);
    }

    private static void whoseWithoutPeople() {
        Due.sentence("16", "(-2: there are no PEOPLE)");
        DoorLetters x = Due.told("village 1;letter 0");
        Due.is("who LACKS least", x.whose(0, 1), -2);
        Due.is("who LACK nothing", x.whose(0, 0), 0);
        Due.is("one alone", Due.told("village 1;person 0 0 0;letter 1").whose(0, 1), 0);
    }

    private static void whoseRefused() {
        Due.sentence("16", "NONE without these.");
        DoorLetters x = Due.told("village 1;person 0 0 0;letter 0");
        Due.is("LETTER 1 of one", x.whose(1, 0), -1);
        Due.is("what 2", x.whose(0, 2), -1);
        for (int wrong : FAR) {
            Due.is("LETTER " + wrong, x.whose(wrong, 1), -1);
            Due.is("what " + wrong, x.whose(0, wrong), -1);
        }
        Due.is("neither PEOPLE nor LETTERS", Due.told("village 1").whose(0, 1), -1);
        Due.is("without a VILLAGE", new DoorLetters().whose(0, 0), -1);
    }

    // ---- promise 17

    private static void askOneAtLeast() {
        Due.sentence("17", "-3 without these.");
        DoorLetters x = Due.told("village 2;person 0 0 0;person 1 0 0");
        Due.is("of none", x.ask(0, 0), -3);
        Due.is("of PERSON 2 of two", x.ask(4, 0), -3);
        Due.is("of PERSON 2 too", x.ask(7, 1), -3);
        Due.is("what 2", x.ask(3, 2), -3);
        Due.is("what 2 of one", x.ask(1, 2), -3);
        for (int wrong : new int[] {-1, -4, Integer.MIN_VALUE, Integer.MAX_VALUE}) {
            Due.is("set " + wrong, x.ask(wrong, 0), -3);
            Due.is("what " + wrong, x.ask(3, wrong), -3);
        }
        Due.is("all of seven", Due.told(SEVEN_ALONE).ask(127, 0), 6);
        Due.is("more than seven", Due.told(SEVEN_ALONE).ask(128, 0), -3);
        Due.is("without PEOPLE", Due.told("village 1").ask(1, 0), -3);
        Due.is("without a VILLAGE", new DoorLetters().ask(1, 0), -3);
    }

    private static void askOne() {
        Due.sentence("17", "ASK what 0: how many (0: the set is of one), 1: the MATTER (NONE: none is asked)");
        DoorLetters x = Due.told("village 2;person 3 0 0;person 3 0 0;person 0 0 0");
        for (int person = 0; person < 3; person++) {
            Due.is("PERSON " + person, x.ask(1 << person, 0), 0);
            Due.is("PERSON " + person, x.ask(1 << person, 1), -1);
        }
        Due.is("two", x.ask(5, 0), 1);
        Due.is("two", x.ask(5, 1), 0);
    }

    private static void askTheFewestAtWorst() {
        Due.sentence("17", "till it is sure which of the set it is: the fewest at worst");
        // 4 by two questions, 5 need three; seven by three where MATTERS part them well, else six
        DoorLetters x = Due.told("village 3;person 0 0 0;person 1 0 0;person 2 0 0;person 3 0 0;person 4 0 0;person 5 0 0;person 6 0 0");
        Due.is("two", x.ask(3, 0), 1);
        Due.is("three", x.ask(7, 0), 2);
        Due.is("four", x.ask(15, 0), 2);
        Due.is("five", x.ask(31, 0), 3);
        Due.is("seven", x.ask(127, 0), 3);
        DoorLetters y = Due.told(SEVEN_ALONE);
        for (int people = 1; people <= 7; people++) {
            Due.is("one by one, of " + people, y.ask((1 << people) - 1, 0), people - 1);
        }
    }

    private static void askTheLeastMatter() {
        Due.sentence("17", "the least MATTER by which such fewest can begin");
        DoorLetters x = Due.told(SEVEN_ALONE);
        Due.is("any of them", x.ask(127, 1), 0);
        Due.is("none of 0 to 4", x.ask(96, 1), 5);
        // by MATTER 0, which tells one alone, three more are needed at worst
        DoorLetters y = Due.told("village 3;person 1 0 0;person 0 0 0;person 2 0 0;person 4 0 0;person 6 0 0");
        Due.is("five", y.ask(31, 0), 3);
        Due.is("five: one alone, then four by two", y.ask(31, 1), 0);
        Due.is("four", y.ask(30, 1), 1);
        DoorLetters z = Due.told("village 8;person 1 0 0;person 64 0 0;person 128 0 0;person 192 0 0");
        Due.is("four: not one alone", z.ask(15, 1), 6);
        DoorLetters w = Due.told("village 8;person 0 0 0;person 128 0 0");
        Due.is("only the last MATTER", w.ask(3, 1), 7);
    }

    private static void askTwoAlike() {
        Due.sentence("17", "-2: two of the set are alike");
        DoorLetters x = Due.told("village 2;person 1 0 0;person 2 0 0;person 1 9 9");
        Due.is("two alike", x.ask(5, 0), -2);
        Due.is("two alike", x.ask(5, 1), -2);
        Due.is("two of three", x.ask(7, 0), -2);
        Due.is("two of three", x.ask(7, 1), -2);
        Due.is("not of the set", x.ask(3, 0), 1);
        x.live(2, 1);
        Due.is("no more", x.ask(7, 0), 2);
    }

    // ---- promise 18

    private static void knowTheFewest() {
        Due.sentence("18", "KNOW: the fewest MATTERS, so that any two PEOPLE who are unlike in what they LIVED are unlike "
            + "in one of these");
        DoorLetters x = Due.told("village 3;person 0 0 0;person 1 0 0;person 2 0 0;person 3 0 0;person 4 0 0;person 5 0 0;person 6 0 0");
        Due.is("all three", x.know(0) * 10 + x.know(1), 37);
        Due.is("six of seven", Due.told(SEVEN_ALONE).know(0), 6);
        // MATTER 2 alone parts them, though it is higher than 0 and 1 together
        DoorLetters y = Due.told("village 3;person 3 0 0;person 7 0 0");
        Due.is("one", y.know(0) * 10 + y.know(1), 14);
        // two alike needn't be parted
        DoorLetters z = Due.told("village 8;person 128 0 0;person 128 0 0;person 0 0 0");
        Due.is("the last", z.know(0) * 1000 + z.know(1), 1128);
        DoorLetters all = Due.told("village 6;person 0 0 0;person 1 0 0;person 2 0 0;person 4 0 0;person 8 0 0;person 16 0 0;person 32 0 0");
        Due.is("all six", all.know(0) * 100 + all.know(1), 663);
    }

    private static void knowTheLeast() {
        Due.sentence("18", "of several sets the least as bits: how many; the set");
        Due.is("six of seven", Due.told(SEVEN_ALONE).know(1), 63);
        Due.is("any one", Due.told("village 8;person 0 0 0;person 255 0 0").know(1), 1);
        Due.is("one of the higher", Due.told("village 8;person 0 0 0;person 192 0 0").know(1), 64);
        // 0 and 1, 0 and 2, or 1 and 2
        Due.is("two of three", Due.told("village 3;person 1 0 0;person 2 0 0;person 4 0 0").know(1), 3);
    }

    private static void knowWhereNoneAreUnlike() {
        Due.sentence("18", "any two PEOPLE who are unlike in what they LIVED");
        for (String people : new String[] {"", ";person 5 0 0", ";person 5 0 0;person 5 9 9", ";person 0 0 0".repeat(7)}) {
            DoorLetters x = Due.told("village 8" + people);
            Due.is("how many for" + people, x.know(0), 0);
            Due.is("the set for" + people, x.know(1), 0);
        }
    }

    private static void knowRefused() {
        Due.sentence("18", "NONE for others, or without a VILLAGE.");
        DoorLetters x = Due.told("village 1;person 0 0 0");
        for (int wrong : new int[] {-1, 2, Integer.MIN_VALUE, Integer.MAX_VALUE}) {
            Due.is("what " + wrong, x.know(wrong), -1);
        }
        Due.is("without a VILLAGE", new DoorLetters().know(0), -1);
        Due.is("without a VILLAGE", new DoorLetters().know(1), -1);
    }

    // ---- promise 19

    private static void pairsMost() {
        Due.sentence("19", "PAIRS: of all ways to give LETTERS to PEOPLE who LACK nothing for theirs, one at most to "
            + "each, no LETTER twice, that of most");
        DoorLetters x = Due.told("village 1" + ";person 1 0 0".repeat(7) + ";letter 1".repeat(10));
        Due.is("ten LETTERS for seven", x.pairs(-1), 7);
        Due.is("the last PERSON", x.pairs(6), 6);
        Due.is("no LETTER twice", Due.told("village 1" + ";person 1 0 0".repeat(7) + ";letter 1").pairs(-1), 1);
        Due.is("one at most to each", Due.told("village 1;person 1 0 0" + ";letter 1".repeat(10)).pairs(-1), 1);
        Due.is("who LACK one", Due.told("village 2;person 1 0 0;letter 3").pairs(-1), 0);
        DoorLetters y = Due.told("village 2;person 3 0 0;person 1 0 0;letter 1;letter 2");
        Due.is("two, though 0 could have the first", y.pairs(-1), 2);
        Due.is("0 has the other one", y.pairs(0) * 10 + y.pairs(1), 10);
        DoorLetters z = Due.told("village 8;person 0 0 0;person 1 0 0;person 3 0 0;person 7 0 0;person 15 0 0;person 31 0 0;person 63 0 0"
            + ";letter 127;letter 191;letter 63;letter 31;letter 15;letter 7;letter 3;letter 1;letter 64;letter 0");
        Due.is("each another", z.pairs(-1), 7);
        for (int person = 0; person < 7; person++) {
            Due.is("PERSON " + person, z.pairs(person), person == 0 ? 9 : 8 - person);
        }
    }

    private static void pairsTheFirst() {
        Due.sentence("19", "of several the first (PERSON 0 first, least LETTERS first, none behind all)");
        DoorLetters x = Due.told("village 1;person 1 0 0;person 1 0 0;person 1 0 0;letter 1;letter 0");
        Due.is("PERSON 0", x.pairs(0), 0);
        Due.is("PERSON 1", x.pairs(1), 1);
        Due.is("none behind all", x.pairs(2), -1);
        // of one LETTER for 0 or 1
        DoorLetters y = Due.told("village 2;person 0 0 0;person 1 0 0;person 3 0 0;letter 1;letter 2");
        Due.is("two", y.pairs(-1), 2);
        Due.is("0 none, 1 the first, 2 the other", (y.pairs(0) + 1) * 100 + y.pairs(1) * 10 + y.pairs(2), 1);
        DoorLetters z = Due.told("village 2;person 3 0 0;person 3 0 0;letter 2;letter 1;letter 1");
        Due.is("least LETTERS", z.pairs(0) * 10 + z.pairs(1), 1);
    }

    private static void pairsNone() {
        Due.sentence("19", "PAIRS what NONE: how many, 0 and on: the LETTER of that PERSON (NONE: none).");
        DoorLetters x = Due.told("village 1;person 0 0 0;person 0 0 0;letter 1;letter 1");
        Due.is("none at all", x.pairs(-1), 0);
        Due.is("PERSON 0", x.pairs(0), -1);
        Due.is("PERSON 1", x.pairs(1), -1);
        Due.is("without LETTERS", Due.told("village 1;person 0 0 0").pairs(0), -1);
        Due.is("without LETTERS", Due.told("village 1;person 0 0 0").pairs(-1), 0);
        Due.is("without PEOPLE", Due.told("village 1;letter 0").pairs(-1), 0);
        Due.is("the last PERSON",
            Due.told("village 1" + ";person 1 0 0".repeat(6) + ";person 0 0 0" + ";letter 1".repeat(10)).pairs(6), -1);
        Due.is("the last LETTER", Due.told("village 1;person 0 0 0" + ";letter 1".repeat(9) + ";letter 0").pairs(0), 9);
    }

    private static void pairsRefused() {
        Due.sentence("19", "-2 for others, or without a VILLAGE.");
        DoorLetters x = Due.told("village 1;person 0 0 0;person 0 0 0;letter 0");
        for (int wrong : new int[] {-2, 2, 7, Integer.MIN_VALUE, Integer.MAX_VALUE}) {
            Due.is("what " + wrong, x.pairs(wrong), -2);
        }
        Due.is("without PEOPLE", Due.told("village 1;letter 0").pairs(0), -2);
        Due.is("without a VILLAGE", new DoorLetters().pairs(-1), -2);
        Due.is("without a VILLAGE", new DoorLetters().pairs(0), -2);
    }

    // ---- promise 20

    private static void bestMost() {
        Due.sentence("20", "BEST: of all ways to give LETTERS to PEOPLE, one at most to each, no LETTER twice, whether "
            + "they fit or not, the most of FITS less LACKS, together.");
        Due.is("the most", Due.told("village 8" + ";person 255 0 0".repeat(7) + ";letter 255".repeat(10)).best(), 56);
        Due.is("one at most to each", Due.told("village 8;person 255 0 0" + ";letter 255".repeat(10)).best(), 8);
        Due.is("no LETTER twice", Due.told("village 8" + ";person 255 0 0".repeat(7) + ";letter 255").best(), 8);
        Due.is("whether they fit or not", Due.told("village 3;person 3 0 0;letter 7").best(), 1);
        Due.is("the best of ten, the last", Due.told("village 8;person 255 0 0" + ";letter 1".repeat(9) + ";letter 3").best(), 2);
    }

    private static void bestNothing() {
        Due.sentence("20", "BEST (0, if nothing is given)");
        Due.is("as many FITS as LACKS", Due.told("village 2;person 1 0 0;letter 3").best(), 0);
        Due.is("more LACKS", Due.told("village 8" + ";person 0 0 0".repeat(7) + ";letter 255".repeat(10)).best(), 0);
        Due.is("without PEOPLE", Due.told("village 1;letter 1").best(), 0);
        Due.is("without LETTERS", Due.told("village 1;person 1 0 0").best(), 0);
        Due.is("without either", Due.told("village 1").best(), 0);
        // one is given, the other one is better left
        Due.is("one of two", Due.told("village 2;person 1 0 0;person 0 0 0;letter 1;letter 2").best(), 1);
    }

    private static void bestWithoutAVillage() {
        Due.sentence("20", "NONE without a VILLAGE.");
        Due.is("BEST", new DoorLetters().best(), -1);
    }

    // ---- promise 21

    private static void wayOfFewest() {
        Due.sentence("21", "of all orders in which it could be read (by the RULE IN FORCE, as all is now) that by which "
            + "it is CLAIMED when fewest have read it, who CLAIMS it, too");
        String seven = "village 1" + ";person 0 0 0".repeat(7) + ";letter 0;letter 1";
        for (int seen = 0; seen < 7; seen++) {
            DoorLetters x = Due.told(seven, "claim 1 if person = 6 and seen >= " + seen);
            Due.is("how many", x.way(0, 0), seen + 1);
            Due.is("who", x.way(0, 1), 6);
        }
        DoorLetters x = Due.told(seven, "claim 1 if letter = 1 and seen = person and seen > 2");
        Due.is("of the last LETTER", x.way(1, 0) * 10 + x.way(1, 1), 43);
        Due.is("one alone", Due.told("village 1;person 0 0 0;letter 0", "claim 1").way(0, 0), 1);
    }

    private static void wayOfSeveral() {
        Due.sentence("21", "of several the first (least numbers first)");
        String four = "village 1" + ";person 0 0 0".repeat(4) + ";letter 0";
        Due.is("any as the first", Due.told(four, "claim 1").way(0, 1), 0);
        Due.is("any as the third: 0, 1, 2", Due.told(four, "claim 1 if seen = 2").way(0, 1), 2);
        Due.is("any but 2: 0, 1, 3", Due.told(four, "claim 1 if seen = 2 and not person = 2").way(0, 1), 3);
        Due.is("0 or 1: 0, 2, 1", Due.told(four, "claim 1 if seen = 2 and person < 2").way(0, 1), 1);
        Due.is("0 alone: 1, 2, 0", Due.told(four, "claim 1 if seen = 2 and person = 0").way(0, 1), 0);
        Due.is("any as the last: 0, 1, 2, 3", Due.told(four, "claim 1 if seen = 3").way(0, 1), 3);
    }

    private static void wayByNoOrder() {
        Due.sentence("21", "-2: by no order");
        String four = "village 1" + ";person 0 0 0".repeat(4) + ";letter 1";
        for (String rule : new String[] {"claim 0", "claim 1 if seen = 4", "claim 0-1", "claim 1 if letter = 1"}) {
            Due.is("how many by " + rule, Due.told(four, rule).way(0, 0), -2);
            Due.is("who by " + rule, Due.told(four, rule).way(0, 1), -2);
        }
        Due.is("without a RULE all LACK it", Due.told(four).way(0, 0), -2);
        Due.is("without PEOPLE", Due.told("village 1;letter 0", "claim 1").way(0, 0), -2);
        Due.is("without PEOPLE", Due.told("village 1;letter 0", "claim 1").way(0, 1), -2);
    }

    private static void wayRefused() {
        Due.sentence("21", "NONE without these.");
        DoorLetters x = Due.told("village 1;person 0 0 0;letter 0", "claim 1");
        Due.is("LETTER 1 of one", x.way(1, 0), -1);
        Due.is("what 2", x.way(0, 2), -1);
        for (int wrong : FAR) {
            Due.is("LETTER " + wrong, x.way(wrong, 0), -1);
            Due.is("what " + wrong, x.way(0, wrong), -1);
        }
        Due.is("without LETTERS", Due.told("village 1;person 0 0 0", "claim 1").way(0, 0), -1);
        Due.is("without a VILLAGE", new DoorLetters().way(0, 0), -1);
    }

    // ---- promise 22

    /** All LETTERS of this VILLAGE, told as CLAIMS, are PINNED. */
    private static DoorLetters pinned(int matters, int... claims) {
        StringBuilder village = new StringBuilder("village " + matters);
        for (int set : claims) {
            village.append(";letter ").append(set);
        }
        DoorLetters x = Due.told(village.toString());
        for (int i = 0; i < claims.length; i++) {
            x.day();
        }
        return x;
    }

    private static void joinFewest() {
        Due.sentence("22", "JOIN of a set of MATTERS: the fewest LETTERS that are PINNED, one at least, whose CLAIMS, "
            + "together, are just that set");
        DoorLetters x = pinned(8, 1, 2, 4, 8, 16, 32, 64, 128, 0, 15);
        Due.is("all eight MATTERS", x.join(255, 0), 5);
        Due.is("all eight MATTERS", x.join(255, 1), 512 + 16 + 32 + 64 + 128);
        Due.is("one", x.join(15, 0) * 1000 + x.join(15, 1), 1512);
        Due.is("three", x.join(7, 0) * 1000 + x.join(7, 1), 3007);
        Due.is("nothing, by one at least", x.join(0, 0) * 1000 + x.join(0, 1), 1256);
        DoorLetters given = Due.told("village 2;person 3 0 0;letter 3;letter 1;letter 2", "claim 1 if letter = 0");
        for (int day = 0; day < 3; day++) {
            given.day();
        }
        Due.is("the first is not PINNED", given.join(3, 0) * 10 + given.join(3, 1), 26);
        Due.is("not more than that set", pinned(2, 3).join(1, 0), -2);
        Due.is("all ten", pinned(8, 1, 2, 4, 8, 16, 32, 64, 128).join(255, 0), 8);
        DoorLetters y = Due.told("village 2;letter 1;letter 2;letter 3");
        y.day();
        y.day();
        Due.is("the third is not PINNED", y.join(3, 0) * 10 + y.join(3, 1), 23);
        y.day();
        Due.is("the third is PINNED", y.join(3, 0) * 10 + y.join(3, 1), 14);
    }

    private static void joinTheLeast() {
        Due.sentence("22", "of several sets the least as bits: how many; the set");
        Due.is("of ten alike", pinned(1, 1, 1, 1, 1, 1, 1, 1, 1, 1, 1).join(1, 1), 1);
        Due.is("two of three", pinned(3, 3, 6, 5).join(7, 1), 3);
        Due.is("0 and 3, or 1 and 2", pinned(2, 1, 1, 2, 2).join(3, 1), 5);
        Due.is("the last", pinned(1, 0, 0, 0, 0, 0, 0, 0, 0, 0, 1).join(1, 1), 512);
    }

    private static void joinNone() {
        Due.sentence("22", "-2: there are none such");
        DoorLetters x = Due.told("village 2;person 3 0 0;letter 1;letter 0", "claim 0");
        Due.is("none PINNED", x.join(1, 0), -2);
        Due.is("none PINNED", x.join(0, 1), -2);
        x.day();
        Due.is("nothing, by none that CLAIMS nothing", x.join(0, 0), -2);
        Due.is("a MATTER that none CLAIMS", x.join(3, 0), -2);
        Due.is("a MATTER that none CLAIMS", x.join(2, 1), -2);
        Due.is("one such", x.join(1, 0), 1);
        x.give(0, 0);
        Due.is("given", x.join(1, 0), -2);
        Due.is("without LETTERS", Due.told("village 1").join(0, 0), -2);
    }

    private static void joinRefused() {
        Due.sentence("22", "NONE without these (a set of MATTERS), or a VILLAGE.");
        DoorLetters x = pinned(3, 7, 0);
        Due.is("all of three", x.join(7, 0), 1);
        Due.is("MATTER 3 of three", x.join(8, 0), -1);
        Due.is("MATTER 3 too", x.join(15, 1), -1);
        Due.is("what 2", x.join(7, 2), -1);
        for (int wrong : FAR) {
            Due.is("set " + wrong, x.join(wrong, 0), -1);
            Due.is("what " + wrong, x.join(7, wrong), -1);
        }
        Due.is("MATTER 8 of eight", pinned(8, 255).join(256, 0), -1);
        Due.is("without a VILLAGE", new DoorLetters().join(0, 0), -1);
    }

    // ---- promise 23

    /** How many, then what each does in the first. */
    private static int rests(DoorLetters x, int one, int other) {
        return x.rests(one, other, 0, 0) * 100 + x.rests(one, other, 0, 1) * 10 + x.rests(one, other, 0, 2);
    }

    private static void restsAlone() {
        Due.sentence("23", "who lets it by has 0; who alone CLAIMS it has FITS less LACKS, and their PRIDE more");
        // 1 LACKS all and has no PRIDE: never CLAIMS. 0 has FITS less LACKS and PRIDE together 0, then 1 above, then 1 below
        Due.is("0: as if let by", rests(Due.told("village 2;person 0 2 0;person 0 0 0;letter 3"), 0, 1), 200);
        Due.is("1 above", rests(Due.told("village 2;person 0 3 0;person 0 0 0;letter 3"), 0, 1), 110);
        Due.is("1 below", rests(Due.told("village 2;person 0 1 0;person 0 0 0;letter 3"), 0, 1), 100);
        Due.is("PRIDE 9 for eight LACKED", rests(Due.told("village 8;person 0 9 0;person 0 0 0;letter 255"), 0, 1), 110);
        Due.is("PRIDE 8 for eight LACKED", rests(Due.told("village 8;person 0 8 0;person 0 0 0;letter 255"), 0, 1), 200);
    }

    private static void restsOfBoth() {
        Due.sentence("23", "if both do, who LACKS less, of like ones the lesser number, has FITS less LACKS, the other "
            + "one as much below 0 as their SHAME, and 1 below that");
        // 1 LACKS less: 0 lets it by, however proud, where 1 CLAIMS it
        Due.is("who LACKS less", rests(Due.told("village 2;person 1 9 0;person 3 0 0;letter 3"), 0, 1), 101);
        Due.is("who LACKS less, as the first of the two", rests(Due.told("village 2;person 1 9 0;person 3 0 0;letter 3"), 1,
            0), 110);
        // like ones: the lesser number has it
        Due.is("like ones", rests(Due.told("village 2;person 3 0 0;person 3 9 0;letter 3"), 0, 1), 110);
        Due.is("like ones, the other way", rests(Due.told("village 2;person 3 0 0;person 3 9 0;letter 3"), 1, 0), 101);
        // without SHAME the other one has 1 below 0: less than by letting it by
        Due.is("without SHAME", rests(Due.told("village 1;person 1 0 0;person 1 9 0;letter 1"), 0, 1), 110);
        // 0 has 0 where both do, 1 has 10 below 0: the one or the other, never both
        Due.is("never both", rests(Due.told("village 2;person 1 9 0;person 1 9 9;letter 3"), 0, 1), 201);
        Due.is("FITS less LACKS below 0", rests(Due.told("village 1;person 0 9 0;person 0 9 9;letter 1"), 0, 1), 201);
    }

    private static void restsTheFirst() {
        Due.sentence("23", "RESTS what 0: how many, 1, 2: the first (0, 1");
        DoorLetters x = Due.told("village 1;person 0 1 0;person 0 1 0;letter 1");
        Due.is("three: neither, one, the other", rests(x, 0, 1), 300);
        DoorLetters y = Due.told("village 1;person 0 2 0;person 0 2 0;letter 1");
        Due.is("two: the other, one", rests(y, 0, 1), 201);
        Due.is("two, the other way", rests(y, 1, 0), 201);
        DoorLetters z = Due.told("village 1;person 0 0 0;person 0 2 0;letter 1");
        Due.is("0 lets it by, 1 CLAIMS", rests(z, 0, 1), 101);
        Due.is("1 CLAIMS, 0 lets it by", rests(z, 1, 0), 110);
        DoorLetters w = Due.told("village 1;person 0 1 0;person 0 2 0;letter 1");
        Due.is("0 alone is as well off", rests(w, 0, 1), 201);
        Due.is("0 alone is as well off", rests(w, 1, 0), 201);
    }

    private static void restsThereIsAlwaysOne() {
        // by these gains one of (0, 0), (0, 1) and (1, 0) rests, whoever they are: -2 can't be due
        Due.sentence("23", "-2: there is none)");
        for (int lived = 0; lived < 16; lived++) {
            for (int feelings = 0; feelings < 16; feelings++) {
                DoorLetters x = Due.told("village 2;person " + lived / 4 + " " + feelings / 4 + " 0;person " + lived % 4 + " "
                    + feelings % 4 + " 9;letter 3");
                int many = x.rests(0, 1, 0, 0);
                Due.is("one to three of " + lived + " " + feelings, many >= 1 && many <= 3 ? 1 : 0, 1);
                Due.is("not both of " + lived + " " + feelings, x.rests(0, 1, 0, 1) * x.rests(0, 1, 0, 2), 0);
            }
        }
    }

    private static void restsRefused() {
        Due.sentence("23", "NONE without these (two PEOPLE, not one and the same).");
        DoorLetters x = Due.told("village 1;person 0 0 0;person 1 0 0;person 1 0 0;letter 1;letter 0");
        for (int person = 0; person < 3; person++) {
            Due.is("one and the same", x.rests(person, person, 0, 0), -1);
        }
        Due.is("PERSON 3 of three", x.rests(3, 0, 0, 0), -1);
        Due.is("PERSON 3 of three", x.rests(0, 3, 0, 0), -1);
        Due.is("LETTER 2 of two", x.rests(0, 1, 2, 0), -1);
        Due.is("what 3", x.rests(0, 1, 0, 3), -1);
        for (int wrong : FAR) {
            Due.is("PERSON " + wrong, x.rests(wrong, 0, 0, 0), -1);
            Due.is("PERSON " + wrong, x.rests(0, wrong, 0, 0), -1);
            Due.is("LETTER " + wrong, x.rests(0, 1, wrong, 0), -1);
            Due.is("what " + wrong, x.rests(0, 1, 0, wrong), -1);
        }
        Due.is("the last of all", x.rests(2, 1, 1, 2), 0);
        Due.is("of one alone", Due.told("village 1;person 0 0 0;letter 0").rests(0, 1, 0, 0), -1);
        Due.is("without a VILLAGE", new DoorLetters().rests(0, 1, 0, 0), -1);
    }

    // ---- promise 32

    /** PEOPLE who HAVE so many. */
    private static DoorLetters having(int... many) {
        DoorLetters x = Due.told("village 1" + ";person 0 0 0".repeat(many.length) + ";letter 0", "claim 0");
        for (int person = 0; person < many.length; person++) {
            for (int i = 0; i < many[person]; i++) {
                x.day();
                x.give(0, person);
            }
        }
        return x;
    }

    private static void parts(DoorLetters x, int much, int... due) {
        for (int person = 0; person < due.length; person++) {
            Due.is(much + " for PERSON " + person, x.pence(much, person), due[person]);
        }
    }

    private static void penceDownwards() {
        Due.sentence("32", "PENCE (0 to 9999) among PEOPLE by how many they HAVE: each the part downwards");
        DoorLetters x = having(1, 0, 3);
        parts(x, 0, 0, 0, 0);
        parts(x, 4, 1, 0, 3);
        parts(x, 9996, 2499, 0, 7497);
        parts(having(5), 9999, 9999);
        parts(having(100, 101), 9999, 4975, 5024);
    }

    private static void penceLeft() {
        Due.sentence("32", "what is left, one each, to those whose part lost most by that, of several the least first");
        DoorLetters x = having(1, 0, 3);
        // of 1: quarters lost, 1 and 3; of 2: 2 and 2; of 3: 3 and 1
        parts(x, 1, 0, 0, 1);
        parts(x, 2, 1, 0, 1);
        parts(x, 3, 1, 0, 2);
        parts(x, 9999, 2500, 0, 7499);
        DoorLetters y = having(1, 1, 1, 1, 1, 1, 1);
        parts(y, 1, 1, 0, 0, 0, 0, 0, 0);
        parts(y, 6, 1, 1, 1, 1, 1, 1, 0);
        parts(y, 7, 1, 1, 1, 1, 1, 1, 1);
        parts(y, 9999, 1429, 1429, 1429, 1428, 1428, 1428, 1428);
        // fifths lost: 2, 4, 4, of which 2 are left
        parts(having(1, 2, 2), 2, 0, 1, 1);
        parts(having(2, 1, 2), 2, 1, 0, 1);
    }

    private static void penceOfNothing() {
        Due.sentence("32", "(nothing, if nobody HAS any)");
        DoorLetters x = having(0, 0);
        parts(x, 9999, 0, 0);
        parts(x, 1, 0, 0);
        parts(having(0, 1), 9999, 0, 9999);
    }

    private static void penceRefused() {
        Due.sentence("32", "PENCE of a PERSON; NONE without these.");
        DoorLetters x = having(1, 1);
        Due.is("10000", x.pence(10000, 0), -1);
        Due.is("PERSON 2 of two", x.pence(1, 2), -1);
        for (int wrong : new int[] {-1, Integer.MIN_VALUE, Integer.MAX_VALUE}) {
            Due.is("PENCE " + wrong, x.pence(wrong, 0), -1);
            Due.is("PERSON " + wrong, x.pence(1, wrong), -1);
        }
        Due.is("PENCE -1 where nobody HAS any", having(0).pence(-1, 0), -1);
        Due.is("PENCE 10000 where nobody HAS any", having(0).pence(10000, 0), -1);
        Due.is("without PEOPLE", Due.told("village 1").pence(0, 0), -1);
        Due.is("without a VILLAGE", new DoorLetters().pence(0, 0), -1);
    }

    private static void nothingChanges() {
        Due.sentence("15 to 23", "AS ALL IS NOW (by what is asked nothing changes)");
        DoorLetters x = Due.told("village 2;person 1 5 5;person 3 5 5;person 0 1 0;letter 3;letter 2", "claim 1 if person = 1");
        x.day();
        String was = Due.all(x);
        for (int what = -1; what < 4; what++) {
            x.fits(0, 0, what);
            x.whose(0, what);
            x.ask(7, what);
            x.know(what);
            x.pairs(what);
            x.way(1, what);
            x.join(2, what);
            x.rests(0, 1, 0, what);
            x.pence(9, what);
        }
        x.best();
        Due.is("as it was", Due.all(x).equals(was) ? 1 : 0, 1);
    }
}
