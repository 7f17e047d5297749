/** Sentence by sentence, the edges that the document names of a new object, of the TAPE and of VILLAGES: promises 1 to 4,
    7 and 8. */
public final class EdgesOfVillagesTest {
    private static final String TWO = "village 3;person 3 2 1;person 5 9 0;letter 1;letter 6";

    public static void main(String[] args) {
        lastCallOfAll();
        nothingIsTold();
        bytesComeHighestFirst();
        tapeIsFull();
        tapeIsCut();
        tapeHasNotSoMany();
        tapeIsCutBelow0();
        tapeIsEmptyThen();
        villageTakesThePlace();
        nothingIsLeftOfActs();
        restStays();
        faultLeavesAll();
        textOf400Bytes();
        fortyClauses();
        mattersAre1To8();
        villageIsTheFirstClause();
        livedIsASet();
        prideIs0To9();
        shameIs0To9();
        claimsAreSuchASet();
        peopleAre0To6();
        lettersAre0To9();
        allBegins();
        numbersAreThree();
        personIsNone();
        letterIsNone();
        faultIsTheFirst();
        faultOfAByte();
        faultAtTheEnd();
        faultOfANumber();
        faultOfTooMany();
        faultIsTheLeast();
        Due.end("EdgesOfVillagesTest");
    }

    // ---- promise 1

    private static void lastCallOfAll() {
        Due.sentence("What it is", "An object is used for at most 512 calls after it has been made");
        DoorLetters x = new DoorLetters();
        // "vill" "age " "1;le" "tter" " 1  "
        x.feed(0x76696C6C, 0x61676520, 0x313B6C65, 0x74746572, 0x20312020);
        x.village();
        for (int call = 3; call <= 511; call++) {
            x.day();
        }
        Due.is("the 512th call", x.count(5), 509);
    }

    private static void nothingIsTold() {
        Due.sentence("1", "No VILLAGE, no RULES, none IN FORCE.");
        DoorLetters x = new DoorLetters();
        for (int what = 0; what < 14; what++) {
            Due.is("count " + what, x.count(what), what == 4 ? -1 : 0);
        }
        Due.is("a DAY", x.day(), -1);
        Due.is("RULE 0", x.force(0), -2);
        Due.is("none was IN FORCE", x.force(-1), -1);
        Due.is("a PERSON", x.person(0, 0), -1);
        Due.is("a LETTER", x.letter(0, 0), -1);
    }

    // ---- promise 2

    private static void bytesComeHighestFirst() {
        Due.sentence("2", "Twenty bytes come behind the TAPE, of each number the highest first: how many it has");
        DoorLetters x = new DoorLetters();
        // "vill" "age " "2   ", then E9 as the highest, and as the lowest byte
        Due.is("the first", x.feed(0x76696C6C, 0x61676520, 0x32202020, 0x20202020, 0xE9202020), 20);
        Due.is("FAULT at byte 16", x.village(), -2 - (1 + 8 * 16));
        x.feed(0x76696C6C, 0x61676520, 0x32202020, 0x20202020, 0x202020E9);
        Due.is("FAULT at byte 19", x.village(), -2 - (1 + 8 * 19));
        x.feed(0x76696C6C, 0x61676520, 0x32202020, 0x20202020, 0x20202020);
        Due.is("behind the TAPE", x.feed(-1, 0, 0, 0, 0), 40);
        Due.is("FAULT at byte 20", x.village(), -2 - (1 + 8 * 20));
    }

    private static void tapeIsFull() {
        Due.sentence("2", "NONE, and none comes, if it would have more than 400");
        DoorLetters x = new DoorLetters();
        for (int i = 1; i < 20; i++) {
            x.feed(0x20202020, 0x20202020, 0x20202020, 0x20202020, 0x20202020);
        }
        Due.is("400", x.feed(0x20202020, 0x20202020, 0x20202020, 0x20202020, 0x20202020), 400);
        Due.is("420", x.feed(0, 0, 0, 0, 0), -1);
        Due.is("none comes", x.count(13), 400);
        Due.is("cut", x.end(381), 381);
        Due.is("401", x.feed(0, 0, 0, 0, 0), -1);
        Due.is("none comes", x.count(13), 381);
        Due.is("it is as it was: the end is the FAULT", x.rule(), -2 - (1 + 8 * 381));
        Due.tape(x, " ".repeat(380));
        Due.is("400 again", x.feed(0, 0, 0, 0, 0), 400);
    }

    // ---- promise 3

    private static void tapeIsCut() {
        Due.sentence("3", "The TAPE has its first n bytes alone: n");
        DoorLetters x = new DoorLetters();
        Due.is("none of none", x.end(0), 0);
        Due.tape(x, "village 3x");
        Due.is("all", x.end(10), 10);
        Due.is("the first 9", x.end(9), 9);
        Due.is("how many", x.count(13), 9);
        Due.is("a VILLAGE", x.village(), 0);
        Due.tape(x, "village 3");
        Due.is("none", x.end(0), 0);
        Due.is("an empty text", x.village(), -3);
    }

    private static void tapeHasNotSoMany() {
        Due.sentence("3", "NONE, and nothing happens, if it has not so many");
        DoorLetters x = new DoorLetters();
        Due.is("one of none", x.end(1), -1);
        Due.tape(x, "village 3");
        for (int n : new int[] {10, 400, 401, Integer.MAX_VALUE}) {
            Due.is("first " + n + " of 9", x.end(n), -1);
        }
        Due.is("nothing happens", x.count(13), 9);
        Due.is("nothing happens", x.village(), 0);
    }

    private static void tapeIsCutBelow0() {
        Due.sentence("3", "or n is below 0");
        DoorLetters x = new DoorLetters();
        Due.is("-1 of none", x.end(-1), -1);
        Due.tape(x, "village 3");
        Due.is("-1", x.end(-1), -1);
        Due.is("the least", x.end(Integer.MIN_VALUE), -1);
        Due.is("nothing happens", x.count(13), 9);
        Due.is("nothing happens", x.village(), 0);
    }

    // ---- promise 4

    private static void tapeIsEmptyThen() {
        Due.sentence("4", "The TAPE, which is empty then, is the VILLAGE in place of the one there was");
        DoorLetters x = new DoorLetters();
        Due.village(x, TWO);
        Due.is("by a VILLAGE", x.count(13), 0);
        Due.is("of an empty TAPE", x.village(), -3);
        Due.village(x, "village 3;");
        Due.is("by a FAULT", x.count(13), 0);
        Due.is("fed again", x.feed(0, 0, 0, 0, 0), 20);
    }

    private static void villageTakesThePlace() {
        Due.sentence("4", "is the VILLAGE in place of the one there was");
        DoorLetters x = Due.told("village 8" + ";person 255 9 9".repeat(7) + ";letter 255".repeat(10));
        Due.is("how many PEOPLE", Due.village(x, "village 2;person 1 2 3;letter 2"), 1);
        Due.is("MATTERS", x.count(0), 2);
        Due.is("LETTERS", x.count(2), 1);
        Due.is("PERSON 0", x.person(0, 0) * 100 + x.person(0, 1) * 10 + x.person(0, 2), 123);
        Due.is("PERSON 1", x.person(1, 0), -1);
        Due.is("LETTER 0", x.letter(0, 0), 2);
        Due.is("LETTER 1", x.letter(1, 0), -1);
        Due.is("MATTER 2", x.live(0, 2), -1);
        Due.is("SHAME of all", x.count(9), 3);
        Due.is("nobody at all", Due.village(x, "village 1"), 0);
        Due.is("PERSON 0", x.person(0, 0), -1);
        Due.is("SHAME of all", x.count(9), 0);
    }

    private static void nothingIsLeftOfActs() {
        Due.sentence("4", "(no NOTES, nothing to be UNDONE");
        DoorLetters x = Due.told(TWO);
        x.note(0, 0);
        x.note(0, 1);
        x.day();
        x.live(0, 2);
        Due.village(x, TWO);
        Due.is("NOTES", x.count(10), 0);
        Due.is("no NOTE is unlike", x.lives(0, 0), 8);
        Due.is("ACTS", x.count(11), 0);
        Due.is("UNDONE", x.undo(), -2);
        Due.is("LIVED", x.person(0, 0), 3);
    }

    private static void restStays() {
        Due.sentence("4", "the RULE IN FORCE, x and IMAGES stay)");
        DoorLetters x = Due.told(TWO, "claim 0", "claim 1");
        x.force(1);
        x.seed(2147483647);
        x.day();
        x.image(0);
        x.image(3);
        Due.village(x, "village 1;person 0 0 0;letter 1");
        Due.is("the RULE IN FORCE", x.count(4), 1);
        Due.is("RULES", x.count(3), 2);
        Due.is("by it", x.day(), 0);
        Due.is("x", x.count(12), 2147483647);
        Due.is("IMAGE 0", x.back(0), 1);
        Due.is("as it was", x.count(1), 2);
        Due.village(x, "village 1");
        Due.is("IMAGE 3", x.back(3), 1);
        Due.is("never made", x.back(1), -1);
    }

    private static void faultLeavesAll() {
        Due.sentence("4", "-2 - its FAULT, and all but the TAPE stays");
        DoorLetters x = Due.told(TWO, "claim 1");
        x.day();
        x.begin(1);
        x.note(0, 0);
        x.seed(5);
        x.image(1);
        String was = Due.all(x);
        Due.is("the least FAULT", Due.village(x, ""), -3);
        Due.is("a late one", Due.village(x, "village 8;person 255 9 9;letter 255;letter 256"), -2 - (1 + 8 * 43 + 1));
        Due.is("the TAPE", x.count(13), 0);
        Due.is("all else", Due.all(x).equals(was) ? 1 : 0, 1);
        Due.is("what can be UNDONE", x.undo(), 1);
        Due.is("BEGIN", x.count(6), 0);
        Due.is("IMAGES", x.back(1), 1);
        DoorLetters y = new DoorLetters();
        Due.village(y, "village 3;x");
        Due.is("still without a VILLAGE", y.day(), -1);
    }

    // ---- Terms: a VILLAGE

    private static void textOf400Bytes() {
        Due.sentence("4", "A VILLAGE is a text of at most 400 bytes");
        String text = "village 2;person 3 0 0";
        Due.villageStands(text + " ".repeat(400 - text.length()), 1);
        Due.villageStands(" ".repeat(400 - text.length()) + text, 1);
        Due.villageFault(text + " ".repeat(399 - text.length()) + "|x", 0);
        Due.villageFault("village" + " ".repeat(393) + "|", 0);
        Due.villageFault("|", 0);
    }

    private static void fortyClauses() {
        // more than 18 there can't be: an eighth PERSON or an eleventh LETTER comes first
        Due.sentence("4", "CLAUSE { ; CLAUSE }, 40 at most");
        Due.villageStands("village 1", 0);
        Due.villageStands("village 1" + ";person 1 1 1".repeat(7) + ";letter 1".repeat(10), 7);
        Due.villageFault("village 1" + ";letter 0".repeat(10) + ";|letter 0" + ";letter 0".repeat(29), 4);
        Due.villageFault("|;village 1", 0);
        Due.villageFault("village 1;|", 0);
        Due.villageFault("village 1;|;letter 0", 0);
    }

    private static void mattersAre1To8() {
        Due.sentence("4", "village NUMBER (MATTERS 1 to 8");
        Due.villageFault("village |0", 1);
        Due.villageFault("village |9", 1);
        Due.villageFault("village |99999", 1);
        for (int matters = 1; matters <= 8; matters++) {
            Due.is("MATTERS", Due.told("village " + matters).count(0), matters);
        }
    }

    private static void villageIsTheFirstClause() {
        Due.sentence("4", "once, the first CLAUSE)");
        Due.villageFault("|person 0 0 0", 4);
        Due.villageFault("|letter 0;village 1", 4);
        Due.villageFault("village 1;|village 1", 4);
        Due.villageFault("village 1;person 1 1 1;letter 1;|village 1", 4);
    }

    private static void livedIsASet() {
        Due.sentence("4", "LIVED, a set of MATTERS as bits: 0 to 2 to the power MATTERS, less 1");
        for (int matters = 1; matters <= 8; matters++) {
            int all = (1 << matters) - 1;
            DoorLetters x = Due.told("village " + matters + ";person 0 0 0;person " + all + " 0 0");
            Due.is("none of " + matters, x.person(0, 0), 0);
            Due.is("all of " + matters, x.person(1, 0), all);
            Due.villageFault("village " + matters + ";person |" + (all + 1) + " 0 0", 1);
        }
        Due.villageFault("village 8;person |99999 0 0", 1);
    }

    private static void prideIs0To9() {
        Due.sentence("4", "PRIDE 0 to 9");
        Due.is("0", Due.told("village 1;person 0 0 5").person(0, 1), 0);
        Due.is("9", Due.told("village 1;person 0 9 5").person(0, 1), 9);
        Due.villageFault("village 1;person 0 |10 0", 1);
    }

    private static void shameIs0To9() {
        Due.sentence("4", "SHAME 0 to 9");
        Due.is("0", Due.told("village 1;person 0 5 0").person(0, 2), 0);
        Due.is("9", Due.told("village 1;person 0 5 9").person(0, 2), 9);
        Due.villageFault("village 1;person 0 0 |10", 1);
    }

    private static void claimsAreSuchASet() {
        Due.sentence("4", "letter NUMBER (CLAIMS, such a set)");
        for (int matters = 1; matters <= 8; matters++) {
            int all = (1 << matters) - 1;
            DoorLetters x = Due.told("village " + matters + ";letter 0;letter " + all);
            Due.is("none of " + matters, x.letter(0, 0), 0);
            Due.is("all of " + matters, x.letter(1, 0), all);
            Due.villageFault("village " + matters + ";letter |" + (all + 1), 1);
        }
        Due.villageFault("village 1;letter|", 0);
        Due.villageFault("village 1;letter 1 |1", 0);
    }

    private static void peopleAre0To6() {
        Due.sentence("4", "PEOPLE 0 to 6");
        Due.is("none", Due.told("village 1;letter 0").count(1), 0);
        DoorLetters x = Due.told("village 3" + ";person 0 0 0".repeat(6) + ";person 7 8 9");
        Due.is("all", x.count(1), 7);
        Due.is("the last one", x.person(6, 0) * 100 + x.person(6, 1) * 10 + x.person(6, 2), 789);
        Due.is("no eighth", x.person(7, 0), -1);
    }

    private static void lettersAre0To9() {
        Due.sentence("4", "LETTERS 0 to 9, in the order told");
        Due.is("none", Due.told("village 1;person 0 0 0").count(2), 0);
        DoorLetters x = Due.told("village 4;letter 1;letter 2;letter 3;letter 4;letter 5;letter 6;letter 7;letter 8;letter 9;letter 10");
        Due.is("all", x.count(2), 10);
        for (int letter = 0; letter < 10; letter++) {
            Due.is("LETTER " + letter, x.letter(letter, 0), letter + 1);
        }
        Due.is("no eleventh", x.letter(10, 0), -1);
    }

    private static void allBegins() {
        Due.sentence("4", "It is DAY 0; rounds BEGIN at PERSON 0; nobody HAS any letter, none is PINNED.");
        DoorLetters x = Due.told("village 1;person 1 0 0;person 1 0 0;letter 1;letter 0", "claim 1 if letter = 0");
        x.begin(1);
        x.day();
        x.day();
        x.day();
        Due.is("it was DAY", x.count(5), 3);
        Due.is("PERSON 1 had", x.person(1, 3), 2);
        Due.is("PINNED was", x.count(7), 2);
        Due.village(x, "village 1;person 1 0 0;person 1 0 0;letter 1;letter 0");
        Due.is("DAY", x.count(5), 0);
        Due.is("BEGIN", x.count(6), 0);
        Due.is("PERSON 1 HAS", x.person(1, 3), 0);
        Due.is("all HAVE", x.count(8), 0);
        Due.is("PINNED", x.count(7), 0);
        Due.is("LETTER 1", x.letter(1, 1), 0);
        Due.is("PERSON 0 is the first to read", x.day(), 0);
    }

    private static void numbersAreThree() {
        Due.sentence("4", "person NUMBER NUMBER NUMBER");
        Due.villageFault("village 1;person|", 0);
        Due.villageFault("village 1;person 1|", 0);
        Due.villageFault("village 1;person 1 1|", 0);
        Due.villageFault("village 1;person 1 1 |;letter 1", 0);
        Due.villageStands("village 1;person 1 1 1", 1);
        Due.villageFault("village 1;person 1 1 1 |1", 0);
    }

    // ---- promises 7 and 8

    private static void personIsNone() {
        Due.sentence("7", "Of a PERSON what 0: LIVED, 1: PRIDE, 2: SHAME, 3: how many they HAVE. NONE without these.");
        DoorLetters x = Due.told(TWO);
        x.day();
        int[] due = {3, 2, 0, 1};
        for (int what = 0; what < 4; what++) {
            Due.is("what " + what, x.person(0, what), due[what]);
            Due.is("PERSON -1, what " + what, x.person(-1, what), -1);
            Due.is("PERSON 2 of two, what " + what, x.person(2, what), -1);
        }
        Due.is("the last PERSON", x.person(1, 0), 5);
        for (int wrong : new int[] {-1, 4, Integer.MIN_VALUE, Integer.MAX_VALUE}) {
            Due.is("what " + wrong, x.person(0, wrong), -1);
        }
        Due.is("PERSON", x.person(Integer.MIN_VALUE, 0), -1);
        Due.is("PERSON", x.person(Integer.MAX_VALUE, 0), -1);
        Due.is("without a VILLAGE", new DoorLetters().person(0, 0), -1);
    }

    private static void letterIsNone() {
        Due.sentence("8", "Of a LETTER what 0: CLAIMS, 1: 1 if it is PINNED, else 0. NONE without these.");
        DoorLetters x = Due.told(TWO, "claim 1 if letter = 0");
        x.day();
        x.day();
        Due.is("CLAIMS", x.letter(1, 0), 6);
        Due.is("not PINNED", x.letter(0, 1), 0);
        Due.is("PINNED", x.letter(1, 1), 1);
        for (int wrong : new int[] {-1, 2, Integer.MIN_VALUE, Integer.MAX_VALUE}) {
            Due.is("what " + wrong, x.letter(0, wrong), -1);
            Due.is("LETTER " + wrong + " of two", x.letter(wrong, 0), -1);
            Due.is("LETTER " + wrong + " of two", x.letter(wrong, 1), -1);
        }
        Due.is("without a VILLAGE", new DoorLetters().letter(0, 1), -1);
    }

    // ---- Terms: FAULTS of a VILLAGE

    private static void faultIsTheFirst() {
        Due.sentence("4", "FAULTS, the first along the text, 1 + 8 * its place");
        Due.villageFault("|x", 0);
        Due.villageFault("  |x", 0);
        Due.villageFault("village |x;y", 0);
        Due.villageFault("village |9;village 9;x", 1);
        Due.villageFault("village 1;person 0 |10 11", 1);
        Due.villageFault("village 1;|village 0", 4);
        Due.villageFault("village 1;person 0 0 |;letter 9", 0);
    }

    private static void faultOfAByte() {
        Due.sentence("4", "0 a byte or WORD that can't stand there");
        for (int b = 0; b < 256; b++) {
            DoorLetters x = new DoorLetters();
            int got = Due.village(x, "village 1" + (char) b);
            boolean isDigit = b >= '0' && b <= '9';
            // a digit goes on with the NUMBER, and behind a ; another CLAUSE is due at the end
            int due = b == ' ' ? 0 : -2 - (isDigit ? 1 + 8 * 8 + 1 : b == ';' ? 1 + 8 * 10 : 1 + 8 * 9);
            Due.is("byte " + b, got, due);
        }
        Due.villageFault("|villages 1", 0);
        Due.villageFault("|villag 1", 0);
        Due.villageFault("|Village 1", 0);
        Due.villageFault("|pillage 1", 0);
        Due.villageFault("village 1;|better 1", 0);
        Due.villageFault("village 1;|persoz 1 1 1", 0);
        Due.villageFault("village 1;|people 1 1 1", 0);
        Due.villageFault("village 1;|letters 1", 0);
        Due.villageFault("village 1;|1", 0);
        Due.villageFault("village |-1", 0);
        Due.villageFault("village 1 |1", 0);
        Due.villageFault("village 1 |letter 1", 0);
    }

    private static void faultAtTheEnd() {
        Due.sentence("4", "or the end (behind the last byte)");
        Due.villageFault("|", 0);
        Due.villageFault("   |", 0);
        Due.villageFault("village|", 0);
        Due.villageFault("village   |", 0);
        Due.villageFault("village 1;   |", 0);
        Due.villageFault("village 1;person 1 1 |", 0);
    }

    private static void faultOfANumber() {
        Due.sentence("4", "1 a NUMBER of more digits, or not as told");
        Due.villageStands("village 00008;person 00255 00009 00009;letter 00255", 1);
        Due.villageFault("village |000008", 1);
        Due.villageFault("village 1;person |000000 0 0", 1);
        Due.villageFault("village 1;person 0 0 |000000", 1);
        Due.villageFault("village |4294967297", 1);
        Due.villageFault("village |" + "1".repeat(100), 1);
        Due.villageFault("village |0", 1);
        Due.villageFault("village 1;letter |2", 1);
    }

    private static void faultOfTooMany() {
        Due.sentence("4", "4 one CLAUSE too many, a second village, another CLAUSE ahead of it, an eighth PERSON, "
            + "an eleventh LETTER (at its first byte)");
        Due.villageFault("village 1; |village 1", 4);
        Due.villageFault("  |person 1 1 1;village 1", 4);
        Due.villageFault("|letter", 4);
        Due.villageFault("village 1" + ";person 0 0 0".repeat(7) + "; |person 0 0 0", 4);
        Due.villageFault("village 1" + ";letter 0".repeat(10) + "; |letter 0", 4);
        Due.villageFault("village 1" + ";letter 0".repeat(10) + ";|letter 2", 4);
        Due.villageFault("village 1" + ";letter 0".repeat(10) + ";|letter", 4);
        Due.villageStands("village 1" + ";letter 0".repeat(10) + ";person 0 0 0", 1);
    }

    private static void faultIsTheLeast() {
        Due.sentence("4", "Of one place the least.");
        Due.villageFault("|letters 0;village 1", 0);
        Due.villageFault("village 1;|villages 1", 0);
        Due.villageFault("village 1" + ";person 0 0 0".repeat(7) + ";|persons 0 0 0", 0);
        Due.villageFault("village 1" + ";letter 0".repeat(10) + ";|let", 0);
    }
}
