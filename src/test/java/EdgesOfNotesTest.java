/** Sentence by sentence, the edges that the document names of NOTES and what is asked by them: promises 29, 30 and 33 to 35. */
public final class EdgesOfNotesTest {
    private static final int[] FAR = {-1, Integer.MIN_VALUE, Integer.MAX_VALUE};
    private static final String TWO = "village 1;person 1 0 0;person 1 0 0;letter 1";

    public static void main(String[] args) {
        noteIsTold();
        noteOfNobody();
        noteTakenBack();
        noteOfDay0To60();
        noteOfAPerson();
        noteWithoutAVillage();
        noteWhereThereAre10();
        livesWithoutNotes();
        livesTheLeast();
        livesOnTheEdgeDays();
        livesFromTheBegin();
        livesNone();
        livesRefused();
        writesWithoutNotes();
        writesTheLeast();
        writesFromTheBegin();
        writesNone();
        writesRefused();
        ruledWithoutNotes();
        ruledTheFirst();
        ruledFromTheBegin();
        ruledNone();
        ruledRefused();
        lookAtDay0To60();
        lookTheLeast();
        lookHowMany();
        lookOfNone();
        lookRefused();
        nothingChanges();
        Due.end("EdgesOfNotesTest");
    }

    // ---- promise 33

    private static void noteIsTold() {
        Due.sentence("33", "A NOTE: how many there are then");
        DoorLetters x = Due.told(TWO);
        for (int many = 1; many <= 10; many++) {
            Due.is("NOTE " + many, x.note(0, 0), many);
            Due.is("NOTES", x.count(10), many);
        }
        // the first and the last count
        Due.is("PERSON 0 on DAY 0", x.ruled(0), 1);
        DoorLetters y = Due.told(TWO);
        for (int day = 0; day < 9; day++) {
            y.note(day, 0);
        }
        y.note(9, 1);
        Due.is("the tenth is unlike", y.ruled(0), 0);
    }

    private static void noteOfNobody() {
        Due.sentence("33", "(person NONE: nobody)");
        DoorLetters x = Due.told(TWO, "claim 0");
        Due.is("nobody", x.note(0, -1), 1);
        Due.is("by RULE 0", x.ruled(1), 0);
        Due.is("without PEOPLE", Due.told("village 1;letter 1").note(60, -1), 1);
        Due.is("without LETTERS", Due.told("village 1").note(60, -1), 1);
    }

    private static void noteTakenBack() {
        Due.sentence("33", "(n NONE, whatever else there is: there are none then, 0)");
        DoorLetters x = Due.told(TWO);
        for (int person : new int[] {0, 1, 2, 7, -1, -2, Integer.MIN_VALUE, Integer.MAX_VALUE}) {
            x.note(5, 1);
            Due.is("PERSON " + person, x.note(-1, person), 0);
            Due.is("NOTES", x.count(10), 0);
            Due.is("none to be so", x.lives(0, 0), 2);
        }
        for (int i = 0; i < 10; i++) {
            x.note(5, 1);
        }
        Due.is("of ten", x.note(-1, 9), 0);
        Due.is("none again", x.note(-1, 9), 0);
        Due.is("the first again", x.note(5, 0), 1);
        Due.is("none of the ten", x.ruled(0), 1);
        Due.is("without a VILLAGE", new DoorLetters().note(-1, 3), 0);
    }

    private static void noteOfDay0To60() {
        Due.sentence("33", "NOTES 0 to 9, told: on the n-th DAY of all (0 to 60)");
        DoorLetters x = Due.told(TWO);
        Due.is("DAY 0", x.note(0, 0), 1);
        Due.is("DAY 60", x.note(60, 0), 2);
        for (int wrong : new int[] {61, -2, 100, Integer.MIN_VALUE, Integer.MAX_VALUE}) {
            Due.is("DAY " + wrong, x.note(wrong, 0), -2);
        }
        Due.is("nothing happens", x.count(10), 2);
    }

    private static void noteOfAPerson() {
        Due.sentence("33", "else -2, and nothing happens, without these");
        DoorLetters x = Due.told(TWO);
        Due.is("the last PERSON", x.note(0, 1), 1);
        for (int wrong : new int[] {2, 7, -2, Integer.MIN_VALUE, Integer.MAX_VALUE}) {
            Due.is("PERSON " + wrong, x.note(0, wrong), -2);
        }
        Due.is("nothing happens", x.count(10), 1);
        Due.is("without PEOPLE", Due.told("village 1").note(0, 0), -2);
        Due.is("PERSON 6 of seven", Due.told("village 1" + ";person 0 0 0".repeat(7)).note(0, 6), 1);
    }

    private static void noteWithoutAVillage() {
        Due.sentence("33", "or a VILLAGE");
        DoorLetters x = new DoorLetters();
        Due.is("of nobody", x.note(0, -1), -2);
        Due.is("of PERSON 0", x.note(0, 0), -2);
        Due.is("nothing happens", x.count(10), 0);
    }

    private static void noteWhereThereAre10() {
        Due.sentence("33", "or if there are 10");
        DoorLetters x = Due.told(TWO);
        for (int i = 0; i < 10; i++) {
            x.note(i, 0);
        }
        Due.is("an eleventh", x.note(10, 1), -2);
        Due.is("nothing happens", x.count(10), 10);
        Due.is("all are so as they were", x.ruled(0), 1);
    }

    // ---- promise 29

    private static void livesWithoutNotes() {
        Due.sentence("29", "LIVES what 0: how many, 1: the least");
        for (int matters = 1; matters <= 8; matters++) {
            DoorLetters x = Due.told("village " + matters + ";person 0 0 0;letter 0");
            Due.is("all sets", x.lives(0, 0), 1 << matters);
            Due.is("the least", x.lives(0, 1), 0);
        }
        DoorLetters y = Due.told("village 8" + ";person 0 0 0".repeat(7) + ";letter 255");
        y.note(0, 6);
        Due.is("the set of all MATTERS, of the last PERSON", y.lives(6, 0) * 1000 + y.lives(6, 1), 1255);
    }

    private static void livesTheLeast() {
        Due.sentence("29", "all NOTES are so: how many; the least as bits");
        DoorLetters x = Due.told("village 3;person 0 0 0;letter 2;letter 4");
        x.note(0, 0);
        Due.is("with MATTER 1", x.lives(0, 0) * 10 + x.lives(0, 1), 42);
        x.note(1, -1);
        Due.is("not with MATTER 2", x.lives(0, 0) * 10 + x.lives(0, 1), 22);
        x.note(-1, 0);
        x.note(1, 0);
        Due.is("with MATTER 2", x.lives(0, 0) * 10 + x.lives(0, 1), 44);
        x.note(0, 0);
        Due.is("with both", x.lives(0, 0) * 10 + x.lives(0, 1), 26);
    }

    private static void livesOnTheEdgeDays() {
        Due.sentence("29", "on the n-th DAY of all (0 to 60) a PERSON CLAIMED it, or nobody (NONE)");
        DoorLetters x = Due.told("village 2;person 0 0 0;letter 0",
            "claim 1 if day = 60 and beyond = 1; claim 1 if day = 0 and beyond = 2;"
            + "claim 1 if day = 61");
        x.note(60, 0);
        Due.is("so on DAY 60", x.lives(0, 0) * 10 + x.lives(0, 1), 21);
        x.note(-1, 0);
        x.note(0, 0);
        Due.is("so on DAY 0", x.lives(0, 0) * 10 + x.lives(0, 1), 13);
        x.note(-1, 0);
        x.note(0, -1);
        x.note(60, -1);
        Due.is("on neither", x.lives(0, 0) * 10 + x.lives(0, 1), 10);
        // DAY 61 isn't asked
        x.note(-1, 0);
        x.note(59, -1);
        Due.is("on others", x.lives(0, 0), 4);
    }

    private static void livesFromTheBegin() {
        Due.sentence("29", "in place of what the text told, so that from the begin on, by the RULE IN FORCE, all else as "
            + "the text told it");
        DoorLetters x = Due.told("village 1;person 0 0 1;person 1 1 0;letter 1;letter 0",
            "claim 1 if person = 0 and seen = 0 and lacks = 0 and shame = 1",
            "claim 1 if person = 1 and has < 1 and pride = 1 and fits = 1");
        // none of what was done by hand counts
        x.begin(1);
        x.hush(0);
        x.live(0, 0);
        x.live(1, 0);
        x.day();
        x.day();
        x.note(0, 0);
        Due.is("PERSON 0 by RULE 0", x.lives(0, 0) * 10 + x.lives(0, 1), 11);
        x.force(1);
        Due.is("PERSON 0 by RULE 1", x.lives(0, 0), 0);
        x.note(-1, 0);
        x.note(0, 1);
        Due.is("PERSON 1 by RULE 1", x.lives(1, 0) * 10 + x.lives(1, 1), 11);
        Due.is("PERSON 0 may have LIVED what they like", x.lives(0, 0) * 10 + x.lives(0, 1), 20);
    }

    private static void livesNone() {
        Due.sentence("29", "(-2: there is none)");
        DoorLetters x = Due.told(TWO, "claim 1 if person = 0");
        x.note(0, 1);
        Due.is("how many", x.lives(0, 0), 0);
        Due.is("the least", x.lives(0, 1), -2);
        Due.is("of the other one", x.lives(1, 1), -2);
        x.note(-1, 0);
        x.note(60, 0);
        x.note(60, -1);
        Due.is("unlike NOTES of one DAY", x.lives(0, 0), 0);
        Due.is("unlike NOTES of one DAY", x.lives(0, 1), -2);
        x.note(-1, 0);
        x.note(60, 0);
        x.note(60, 0);
        Due.is("like NOTES of one DAY", x.lives(0, 0), 2);
    }

    private static void livesRefused() {
        Due.sentence("29", "NONE without these.");
        DoorLetters x = Due.told(TWO);
        Due.is("PERSON 2 of two", x.lives(2, 0), -1);
        Due.is("what 2", x.lives(0, 2), -1);
        for (int wrong : FAR) {
            Due.is("PERSON " + wrong, x.lives(wrong, 0), -1);
            Due.is("what " + wrong, x.lives(0, wrong), -1);
        }
        Due.is("without PEOPLE", Due.told("village 1;letter 0").lives(0, 0), -1);
        Due.is("without a VILLAGE", new DoorLetters().lives(0, 0), -1);
    }

    // ---- promise 30

    private static void writesWithoutNotes() {
        Due.sentence("30", "WRITES what 0: how many, 1: the least");
        for (int matters = 1; matters <= 8; matters++) {
            DoorLetters x = Due.told("village " + matters + ";person 0 0 0;letter 0");
            Due.is("all sets", x.writes(0, 0), 1 << matters);
            Due.is("the least", x.writes(0, 1), 0);
        }
        DoorLetters y = Due.told("village 8;person 254 0 0;person 255 0 0" + ";letter 0".repeat(10));
        y.note(59, 1);
        Due.is("with MATTER 0, the last LETTER", y.writes(9, 0) * 10 + y.writes(9, 1), 1281);
    }

    private static void writesTheLeast() {
        Due.sentence("30", "WRITES of a LETTER: likewise sets as CLAIMS.");
        DoorLetters x = Due.told("village 3;person 3 0 0;person 6 0 0;letter 7;letter 0");
        x.note(0, 1);
        Due.is("what 1 LIVED, and 0 had not", x.writes(0, 0) * 10 + x.writes(0, 1), 24);
        x.note(-1, 0);
        x.note(60, -1);
        Due.is("what neither LIVED", x.writes(0, 0) * 10 + x.writes(0, 1), 25);
        x.note(1, 0);
        Due.is("LETTER 1 is another one's", x.writes(0, 0) * 10 + x.writes(0, 1), 25);
        Due.is("LETTER 0 as told is nobody's", x.writes(1, 0) * 10 + x.writes(1, 1), 40);
    }

    private static void writesFromTheBegin() {
        Due.sentence("30", "from the begin on, by the RULE IN FORCE, all else as the text told it");
        DoorLetters x = Due.told("village 1;person 0 0 0;person 1 0 0;letter 1");
        x.begin(1);
        x.live(0, 0);
        x.live(1, 0);
        x.day();
        x.note(0, 1);
        Due.is("without a RULE", x.writes(0, 0) * 10 + x.writes(0, 1), 11);
        Due.rule(x, "claim person");
        x.force(0);
        Due.is("by RULE 0", x.writes(0, 0) * 10 + x.writes(0, 1), 20);
    }

    private static void writesNone() {
        Due.sentence("30", "(-2: there is none)");
        DoorLetters x = Due.told(TWO);
        x.note(0, 1);
        Due.is("how many", x.writes(0, 0), 0);
        Due.is("the least", x.writes(0, 1), -2);
        x.note(-1, 0);
        x.note(0, 0);
        x.note(0, 1);
        Due.is("unlike NOTES of one DAY", x.writes(0, 1), -2);
    }

    private static void writesRefused() {
        Due.sentence("30", "NONE without these.");
        DoorLetters x = Due.told(TWO);
        Due.is("LETTER 1 of one", x.writes(1, 0), -1);
        Due.is("what 2", x.writes(0, 2), -1);
        for (int wrong : FAR) {
            Due.is("LETTER " + wrong, x.writes(wrong, 0), -1);
            Due.is("what " + wrong, x.writes(0, wrong), -1);
        }
        Due.is("without LETTERS", Due.told("village 1;person 0 0 0").writes(0, 0), -1);
        Due.is("without a VILLAGE", new DoorLetters().writes(0, 0), -1);
    }

    // ---- promise 34

    private static void ruledWithoutNotes() {
        Due.sentence("34", "RULED: which of the RULES, and of none");
        DoorLetters x = Due.told(TWO);
        for (int rules = 0; rules <= 6; rules++) {
            Due.is("RULES " + rules, x.ruled(0), rules + 1);
            Due.is("none first", x.ruled(1), -1);
            Due.rule(x, "claim 0");
        }
        Due.is("without PEOPLE", Due.told("village 1;letter 0").ruled(0), 1);
        Due.is("without LETTERS", Due.told("village 1;person 0 0 0").ruled(0), 1);
    }

    private static void ruledTheFirst() {
        Due.sentence("34", "all NOTES are so: how many; the first (none ahead of 0, told as NONE)");
        DoorLetters x = Due.told(TWO, "claim person", "claim person", "claim 0", "claim 0", "claim 0",
            "claim 1 if day = 60 and person = 1");
        x.note(0, 0);
        Due.is("by none", x.ruled(0) * 10 + x.ruled(1), 9);
        x.note(-1, 0);
        x.note(0, 1);
        Due.is("0 and 1", x.ruled(0) * 10 + x.ruled(1), 20);
        x.note(-1, 0);
        x.note(0, -1);
        Due.is("2 to 5", x.ruled(0) * 10 + x.ruled(1), 42);
        x.note(60, 1);
        Due.is("5 alone, the last", x.ruled(0) * 10 + x.ruled(1), 15);
    }

    private static void ruledFromTheBegin() {
        Due.sentence("34", "so that from the begin on, all as the text told it, all NOTES are so");
        DoorLetters x = Due.told("village 1;person 0 0 0;person 1 0 0;letter 1", "claim 1");
        x.begin(1);
        x.live(0, 0);
        x.live(1, 0);
        x.day();
        x.note(0, 1);
        Due.is("by none, not by what is IN FORCE", x.ruled(0) * 10 + x.ruled(1), 9);
        x.note(-1, 0);
        x.note(0, 0);
        Due.is("by RULE 0", x.ruled(0) * 10 + x.ruled(1), 10);
    }

    private static void ruledNone() {
        Due.sentence("34", "-2: there is none such)");
        DoorLetters x = Due.told(TWO, "claim 1");
        x.note(60, 1);
        Due.is("how many", x.ruled(0), 0);
        Due.is("the first", x.ruled(1), -2);
        x.note(-1, 0);
        x.note(0, 0);
        x.note(0, -1);
        Due.is("unlike NOTES of one DAY", x.ruled(0), 0);
        Due.is("unlike NOTES of one DAY", x.ruled(1), -2);
    }

    private static void ruledRefused() {
        Due.sentence("34", "-3 for others, or without a VILLAGE.");
        DoorLetters x = Due.told(TWO);
        Due.is("what 2", x.ruled(2), -3);
        for (int wrong : FAR) {
            Due.is("what " + wrong, x.ruled(wrong), -3);
        }
        DoorLetters y = new DoorLetters();
        Due.rule(y, "claim 1");
        Due.is("without a VILLAGE", y.ruled(0), -3);
        Due.is("without a VILLAGE", y.ruled(1), -3);
    }

    // ---- promise 35

    private static void lookAtDay0To60() {
        Due.sentence("35", "LOOK: the DAY (0 to 60) by who CLAIMS on which these part best");
        DoorLetters first = Due.told(TWO, "claim person if day = 0;claim 1");
        Due.is("DAY 0", first.look(0) * 10 + first.look(1), 1);
        DoorLetters last = Due.told(TWO, "claim person if day = 60;claim 1");
        Due.is("DAY 60", last.look(0) * 10 + last.look(1), 601);
        DoorLetters beyond = Due.told(TWO, "claim person if day = 61;claim 1");
        Due.is("DAY 61 isn't one of these", beyond.look(0) * 10 + beyond.look(1), 2);
        DoorLetters nobody = Due.told(TWO, "claim 0 if day = 60;claim 1");
        Due.is("nobody is unlike PERSON 0", nobody.look(0) * 10 + nobody.look(1), 601);
    }

    private static void lookTheLeast() {
        Due.sentence("35", "the most alike are fewest, of several the least");
        DoorLetters x = Due.told(TWO, "claim person if day = 40 or day = 50;claim 1");
        Due.is("DAYS 40 and 50", x.look(0), 40);
        // three ways on DAY 9, two on DAY 3: of five 3 and 2, then 2, 2 and 1
        DoorLetters y = Due.told("village 1;person 1 0 0;person 1 0 0;letter 1", "claim 1",
            "claim person if day = 3;claim person if day = 9;claim 1",
            "claim person if day = 3;claim 0 if day = 9;claim 1", "claim person if day = 9;claim 1");
        Due.is("DAY 9", y.look(0) * 10 + y.look(1), 92);
    }

    private static void lookHowMany() {
        Due.sentence("35", "LOOK what 0: the DAY, 1: how many");
        DoorLetters alone = Due.told(TWO);
        Due.is("none alone", alone.look(0) * 10 + alone.look(1), 1);
        DoorLetters seven = Due.told(TWO, "claim 1", "claim 1", "claim 1", "claim 1", "claim 1", "claim 1");
        Due.is("seven alike", seven.look(0) * 10 + seven.look(1), 7);
        DoorLetters unlike = Due.told(TWO, "claim person", "claim 1", "claim 1", "claim 1", "claim 1", "claim 1");
        Due.is("six alike, one unlike", unlike.look(0) * 10 + unlike.look(1), 6);
        DoorLetters all = Due.told("village 1" + ";person 1 0 0".repeat(6) + ";letter 1", "claim 1 if person = 1 or day < 7",
            "claim 1 if person = 2 or day < 7", "claim 1 if person = 3 or day < 7", "claim 1 if person = 4 or day < 7",
            "claim 1 if person = 5 or day < 7", "claim 0 if day = 7; claim 1");
        Due.is("all seven unlike on DAY 7", all.look(0) * 10 + all.look(1), 71);
        all.note(8, 5);
        Due.is("of those RULED alone", all.look(0) * 10 + all.look(1), 1);
    }

    private static void lookOfNone() {
        Due.sentence("35", "-2: RULED is of none (no RULE is so, nor is it so by none)");
        DoorLetters x = Due.told(TWO, "claim 1");
        x.note(60, 1);
        Due.is("the DAY", x.look(0), -2);
        Due.is("how many", x.look(1), -2);
        Due.rule(x, "claim person");
        Due.is("by one RULE, not by none", x.look(0) * 10 + x.look(1), 1);
        x.note(60, 0);
        Due.is("unlike NOTES of one DAY", x.look(0), -2);
    }

    private static void lookRefused() {
        Due.sentence("35", "NONE for others, or without a VILLAGE.");
        DoorLetters x = Due.told(TWO);
        Due.is("what 2", x.look(2), -1);
        for (int wrong : FAR) {
            Due.is("what " + wrong, x.look(wrong), -1);
        }
        Due.is("without a VILLAGE", new DoorLetters().look(0), -1);
        Due.is("without a VILLAGE", new DoorLetters().look(1), -1);
    }

    private static void nothingChanges() {
        Due.sentence("29, 30, 34, 35", "by what is asked nothing changes");
        DoorLetters x = Due.told("village 2;person 1 5 5;person 0 5 5;letter 3;letter 0", "claim person");
        x.day();
        x.note(0, 1);
        x.note(7, -1);
        String was = Due.all(x);
        for (int what = -1; what < 3; what++) {
            x.lives(0, what);
            x.writes(1, what);
            x.ruled(what);
            x.look(what);
        }
        Due.is("as it was", Due.all(x).equals(was) ? 1 : 0, 1);
    }
}
