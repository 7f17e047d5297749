/** Promises 29, 30 and 33 to 35: what is asked by NOTES. */
public final class NotesTest {
    private static final int[] WRONG = {-1, 32, Integer.MIN_VALUE, Integer.MAX_VALUE};
    private static final int[] WRONG_WHAT = {-1, 2, Integer.MIN_VALUE, Integer.MAX_VALUE};

    public static void main(String[] args) {
        note();
        lives();
        livesFromTheBegin();
        writes();
        ruled();
        look();
        lookAmongSeven();
        Due.end("NotesTest");
    }

    private static void note() {
        DoorLetters x = new DoorLetters();
        Due.is("33: without a VILLAGE", x.note(0, -1), -2);
        Due.is("33: none then, without a VILLAGE", x.note(-1, 5), 0);
        Due.village(x, "village 1;person 1 0 0;person 0 0 0;letter 1");
        for (int wrong : new int[] {-2, 61, Integer.MIN_VALUE, Integer.MAX_VALUE}) {
            Due.is("33: n " + wrong, x.note(wrong, 0), -2);
        }
        for (int wrong : new int[] {-2, 2, Integer.MIN_VALUE, Integer.MAX_VALUE}) {
            Due.is("33: PERSON " + wrong, x.note(0, wrong), -2);
        }
        Due.is("33: nothing happened", x.count(10), 0);
        Due.is("33: the first", x.note(0, 0), 1);
        Due.is("33: nobody", x.note(60, -1), 2);
        Due.is("33: the same again", x.note(0, 0), 3);
        for (int many = 4; many <= 10; many++) {
            Due.is("33: more", x.note(many, 1), many);
        }
        Due.is("33: there are 10", x.note(0, 0), -2);
        Due.is("33: there are 10", x.count(10), 10);
        Due.is("33: no ACT", x.count(11), 0);
        Due.is("33: none then", x.note(-1, Integer.MIN_VALUE), 0);
        Due.is("33: none then", x.count(10), 0);
        Due.is("33: again", x.note(3, -1), 1);
    }

    private static void lives() {
        // without a RULE: on DAY 0 LETTER 0, on DAY 1 LETTER 1, and so on
        DoorLetters x = Due.told("village 3;person 7 0 0;person 3 0 0;letter 1;letter 6");
        Due.is("29: no NOTES", x.lives(0, 0), 8);
        Due.is("29: no NOTES", x.lives(0, 1), 0);
        x.note(0, 0);
        Due.is("29: MATTER 0", x.lives(0, 0), 4);
        Due.is("29: MATTER 0", x.lives(0, 1), 1);
        Due.is("29: 1 whatever they LIVED", x.lives(1, 0), 8);
        x.note(3, -1);
        Due.is("29: not 1 and 2", x.lives(0, 0), 3);
        Due.is("29: not 1 and 2", x.lives(0, 1), 1);
        Due.is("29: 0 takes it anyway", x.lives(1, 0), 0);
        Due.is("29: 0 takes it anyway", x.lives(1, 1), -2);
        x.note(2, 1);
        Due.is("29: not on DAY 2, though on DAY 0", x.lives(0, 0), 0);
        x.note(-1, 0);
        x.note(60, 1);
        Due.is("29: not MATTER 0", x.lives(0, 0), 4);
        Due.is("29: not MATTER 0", x.lives(0, 1), 0);
        x.note(60, -1);
        Due.is("29: two unlike NOTES", x.lives(0, 0), 0);
        Due.is("29: two unlike NOTES", x.lives(0, 1), -2);
        for (int wrong : WRONG) {
            Due.is("29: PERSON " + wrong, x.lives(wrong, 0), -1);
        }
        Due.is("29: PERSON 2", x.lives(2, 0), -1);
        for (int wrong : WRONG_WHAT) {
            Due.is("29: what " + wrong, x.lives(0, wrong), -1);
        }
        Due.is("29: without a VILLAGE", new DoorLetters().lives(0, 0), -1);
        Due.is("29: all of eight MATTERS", Due.told("village 8;person 0 0 0").lives(0, 0), 256);
    }

    private static void livesFromTheBegin() {
        DoorLetters x = Due.told("village 2;person 3 1 0;person 3 5 0;letter 3;letter 1",
            "claim 1 if person = 0 and fits = 2 and pride > 0; claim 1 if person = 1 and shame + has > 1");
        // what was done by hand is not asked: LIVED, BEGIN, DAYS, SHAME, what is PINNED
        x.begin(1);
        x.live(1, 0);
        x.day();
        x.day();
        x.day();
        x.note(0, 0);
        Due.is("29: from the begin on", x.lives(0, 0), 1);
        Due.is("29: from the begin on", x.lives(0, 1), 3);
        Due.is("29: of the other", x.lives(1, 0), 4);
        // DAY 1: 0 has FITS 1, lets it by and LACKS nothing: PRIDE 0 on DAY 2
        x.note(2, -1);
        Due.is("29: PRIDE as it goes on", x.lives(0, 0), 1);
        x.note(2, 0);
        Due.is("29: PRIDE as it goes on", x.lives(0, 0), 0);
        x.note(-1, 0);
        x.note(0, 0);
        x.force(-1);
        Due.is("29: by the RULE IN FORCE", x.lives(0, 0), 1);
        Due.is("29: by the RULE IN FORCE", x.lives(0, 1), 3);
        x.note(1, 0);
        Due.is("29: as LIVED on all DAYS", x.lives(0, 1), 3);
        x.note(-1, 0);
        x.note(1, 1);
        Due.is("29: in place of what the text told", x.lives(0, 0), 2);
        Due.is("29: in place of what the text told", x.lives(0, 1), 0);
        Due.is("29: nothing changed", x.person(0, 0) * 10 + x.person(1, 0), 32);
    }

    private static void writes() {
        DoorLetters x = Due.told("village 3;person 1 0 0;person 3 0 0;letter 1;letter 7");
        Due.is("30: no NOTES", x.writes(1, 0), 8);
        Due.is("30: no NOTES", x.writes(1, 1), 0);
        x.note(1, 1);
        Due.is("30: MATTER 1, not 2", x.writes(1, 0), 2);
        Due.is("30: MATTER 1, not 2", x.writes(1, 1), 2);
        Due.is("30: another LETTER", x.writes(0, 0), 0);
        Due.is("30: another LETTER", x.writes(0, 1), -2);
        x.note(-1, 0);
        x.note(0, -1);
        Due.is("30: MATTER 2", x.writes(0, 0), 4);
        Due.is("30: MATTER 2", x.writes(0, 1), 4);
        x.live(0, 2);
        x.day();
        Due.is("30: from the begin on", x.writes(0, 1), 4);
        Due.is("30: nothing changed", x.letter(0, 0), 1);
        x.note(0, 1);
        Due.is("30: two unlike NOTES", x.writes(0, 1), -2);
        for (int wrong : WRONG) {
            Due.is("30: LETTER " + wrong, x.writes(wrong, 0), -1);
        }
        Due.is("30: LETTER 2", x.writes(2, 0), -1);
        for (int wrong : WRONG_WHAT) {
            Due.is("30: what " + wrong, x.writes(0, wrong), -1);
        }
        Due.is("30: without a VILLAGE", new DoorLetters().writes(0, 0), -1);
        // SHAME comes of what the LETTER CLAIMS: 1 CLAIMS it on DAY 1 if 0 has 2 SHAME
        DoorLetters y = Due.told("village 2;person 0 0 0;person 0 0 0;letter 1",
            "claim 1 if person = 0 and shame < 2;claim person");
        y.note(1, 1);
        Due.is("30: by how it goes on", y.writes(0, 0), 1);
        Due.is("30: by how it goes on", y.writes(0, 1), 3);
    }

    private static void ruled() {
        DoorLetters x = Due.told("village 1;person 0 0 0;person 1 0 0;letter 1");
        Due.is("34: none alone", x.ruled(0), 1);
        Due.is("34: none alone", x.ruled(1), -1);
        Due.rule(x, "claim 1");
        Due.rule(x, "claim person");
        Due.rule(x, "claim fits");
        Due.is("34: no NOTES", x.ruled(0), 4);
        x.note(60, 1);
        Due.is("34: none, 1 and 2", x.ruled(0), 3);
        Due.is("34: none is ahead of 0", x.ruled(1), -1);
        x.note(0, 0);
        Due.is("34: none such", x.ruled(0), 0);
        Due.is("34: none such", x.ruled(1), -2);
        x.note(-1, 0);
        x.note(7, 0);
        x.force(2);
        Due.is("34: 0 alone", x.ruled(0), 1);
        Due.is("34: 0 alone", x.ruled(1), 0);
        x.note(7, 0);
        Due.is("34: told twice", x.ruled(0), 1);
        x.note(7, -1);
        Due.is("34: two unlike NOTES", x.ruled(0), 0);
        Due.is("34: the RULE IN FORCE stays", x.count(4), 2);
        x.note(-1, 0);
        x.live(0, 0);
        x.begin(1);
        x.day();
        x.note(0, 1);
        Due.is("34: all as the text told it", x.ruled(0), 3);
        for (int wrong : WRONG_WHAT) {
            Due.is("34: what " + wrong, x.ruled(wrong), -3);
        }
        Due.is("34: without a VILLAGE", new DoorLetters().ruled(0), -3);
        Due.is("34: without PEOPLE", Due.told("village 1;letter 1", "claim 1").ruled(0), 2);
    }

    private static void look() {
        DoorLetters x = Due.told("village 1;person 1 0 0;person 1 0 0;letter 1");
        Due.is("35: none alone", x.look(0), 0);
        Due.is("35: none alone", x.look(1), 1);
        Due.rule(x, "claim 1 if day < 60; claim person");
        Due.is("35: the last DAY", x.look(0), 60);
        Due.is("35: one and one", x.look(1), 1);
        Due.rule(x, "claim 1 if day < 61; claim person");
        Due.is("35: two and one", x.look(0), 60);
        Due.is("35: two and one", x.look(1), 2);
        Due.rule(x, "claim person if day = 9 or day = 40; claim 1 if day < 60; claim 0");
        Due.is("35: one, one and two; three and one on DAY 9", x.look(0), 60);
        Due.is("35: one, one and two", x.look(1), 2);
        x.note(60, 0);
        Due.is("35: two left, none and 1", x.look(0), 0);
        Due.is("35: alike on all DAYS", x.look(1), 2);
        x.note(60, -1);
        Due.is("35: RULED is of none", x.look(0), -2);
        Due.is("35: RULED is of none", x.look(1), -2);
        for (int wrong : WRONG_WHAT) {
            Due.is("35: what " + wrong, x.look(wrong), -1);
        }
        Due.is("35: without a VILLAGE", new DoorLetters().look(0), -1);
    }

    private static void lookAmongSeven() {
        DoorLetters x = Due.told("village 1;person 1 0 0;person 1 0 0;person 1 0 0;letter 1",
            "claim 1 if person = day % 3", "claim 1 if person = 1", "claim 1 if person = 2 and day > 3",
            "claim 1 if person = 2 or day > 5", "claim 0 if day = 5; claim 1", "claim 1 if person * 2 = day");
        // DAY 0: 0 1 - 2 0 0, and 0 without: four 0. DAY 1: 1 1 - 2 0 -, 0: two each but one 2
        Due.is("35: the least of the best", x.look(0), 1);
        Due.is("35: two alike at most", x.look(1), 2);
        DoorLetters y = Due.told("village 1;person 1 0 0;letter 1", "claim 1", "claim 1", "claim 0 if day = 3;claim 1",
            "claim 0 if day = 3;claim 1", "claim 0 if day = 3;claim 1", "claim 0 if day = 7;claim 1");
        // without the last one DAY 3 parts three and three
        Due.is("35: four and three", y.look(0), 3);
        Due.is("35: four and three", y.look(1), 4);
        y.note(7, 0);
        Due.is("35: three and three", y.look(1), 3);
        x.note(1, 1);
        // 0 and 1 are left: unlike on DAY 0
        Due.is("35: two left", x.look(0), 0);
        Due.is("35: two left", x.look(1), 1);
        x.live(0, 0);
        x.day();
        x.begin(1);
        Due.is("35: from the begin on", x.look(0), 0);
    }
}
