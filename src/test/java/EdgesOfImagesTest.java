/** Sentence by sentence, the edges that the document names of what is counted, and of IMAGES: promises 38 to 40. */
public final class EdgesOfImagesTest {
    private static final int[] WRONG = {-1, 4, Integer.MIN_VALUE, Integer.MAX_VALUE};

    public static void main(String[] args) {
        allIsCounted();
        fullIsCounted();
        countOfOthers();
        imageOfAnotherK();
        imageOfNothingTold();
        imageIsMade();
        backTellsTheDay();
        backWasNeverMade();
        backWithoutIt();
        allButRulesAndTape();
        whatCanBeUndoneToo();
        Due.end("EdgesOfImagesTest");
    }

    // ---- promise 38

    private static void allIsCounted() {
        Due.sentence("38", "What 0: MATTERS, 1: PEOPLE, 2: LETTERS, 3: RULES, 4: the RULE IN FORCE (NONE), 5: DAY");
        int[] due = {0, 0, 0, 0, -1, 0, 0, 0, 0, 0, 0, 0, 0, 0};
        DoorLetters x = new DoorLetters();
        for (int what = 0; what < 14; what++) {
            Due.is("of a new object, what " + what, x.count(what), due[what]);
        }
        due[0] = 1;
        Due.village(x, "village 1");
        for (int what = 0; what < 14; what++) {
            Due.is("of the least VILLAGE, what " + what, x.count(what), due[what]);
        }
    }

    private static void fullIsCounted() {
        Due.sentence("38", "6: the PERSON at whom rounds BEGIN, 7: LETTERS that are PINNED, as bits, 8: how many all "
            + "HAVE, 9: SHAME of all, 10: NOTES, 11: ACTS that can be UNDONE, 12: x, 13: bytes of the TAPE.");
        DoorLetters x = Due.told("village 8" + ";person 0 9 9".repeat(7) + ";letter 255".repeat(10), "claim 0", "claim 1",
            "claim 1", "claim 1",
            "claim 1", "claim 1");
        for (int day = 0; day < 10; day++) {
            x.day();
        }
        x.force(5);
        for (int person = 6; person > 0; person--) {
            x.begin(person);
            x.day();
            x.day();
            x.day();
        }
        x.begin(0);
        x.day();
        x.day();
        x.day();
        x.begin(6);
        x.seed(2147483647);
        for (int note = 0; note < 10; note++) {
            x.note(60, -1);
        }
        Due.tape(x, " ".repeat(400));
        int[] due = {8, 7, 10, 6, 5, 31, 6, 1023, 21, 210, 10, 20, 2147483647, 400};
        for (int what = 0; what < 14; what++) {
            Due.is("at the most, what " + what, x.count(what), due[what]);
        }
    }

    private static void countOfOthers() {
        Due.sentence("38", "NONE for others.");
        DoorLetters x = Due.told("village 1");
        for (int wrong : new int[] {-1, 14, 15, Integer.MIN_VALUE, Integer.MAX_VALUE}) {
            Due.is("what " + wrong, x.count(wrong), -1);
        }
    }

    // ---- promise 39

    private static void imageOfAnotherK() {
        Due.sentence("39", "NONE for another k");
        DoorLetters x = Due.told("village 1;letter 0");
        x.day();
        for (int wrong : WRONG) {
            Due.is("k " + wrong, x.image(wrong), -1);
        }
        for (int k = 0; k < 4; k++) {
            Due.is("nothing was made: " + k, x.back(k), -1);
        }
    }

    private static void imageOfNothingTold() {
        Due.sentence("39", "(it is made also where nothing was told yet)");
        DoorLetters x = new DoorLetters();
        Due.is("IMAGE 0", x.image(0), 0);
        Due.village(x, "village 1;person 1 2 3;letter 0");
        x.day();
        Due.is("back", x.back(0), 0);
        Due.is("MATTERS", x.count(0), 0);
        Due.is("a DAY", x.day(), -1);
        Due.is("a PERSON", x.person(0, 0), -1);
        Due.is("a NOTE", x.note(0, -1), -2);
        Due.is("UNDONE", x.undo(), -2);
    }

    private static void imageIsMade() {
        Due.sentence("39", "An IMAGE is made: DAY");
        DoorLetters x = Due.told("village 1;person 0 0 0;letter 0");
        for (int k = 0; k < 4; k++) {
            Due.is("IMAGE " + k, x.image(k), k);
            x.day();
        }
        Due.is("in place of the one there was", x.image(0), 4);
        for (int k = 3; k > 0; k--) {
            Due.is("others stay: " + k, x.back(k), k);
        }
        Due.is("the new one", x.back(0), 4);
        Due.is("and again", x.back(0), 4);
    }

    // ---- promise 40

    private static void backTellsTheDay() {
        Due.sentence("40", "All is as in an IMAGE: DAY");
        DoorLetters x = Due.told("village 2;person 1 5 5;person 2 1 1;letter 3;letter 1", "claim 1 if seen = 1 and letter = 0");
        x.day();
        x.day();
        x.begin(1);
        x.note(3, -1);
        x.seed(4);
        x.force(0);
        String was = Due.all(x);
        x.image(3);
        x.day();
        x.live(0, 1);
        x.give(1, 0);
        x.hush(0);
        x.undo();
        x.force(-1);
        x.begin(0);
        x.seed(5);
        x.note(-1, 0);
        x.note(4, 0);
        x.note(8, 0);
        Due.is("DAY", x.back(3), 2);
        Due.is("as it was", Due.all(x).equals(was) ? 1 : 0, 1);
        // the NOTE is the one there was: on DAY 3 nobody, as by RULE 0
        Due.is("the NOTE", x.ruled(0) * 10 + x.ruled(1), 10);
    }

    private static void backWasNeverMade() {
        Due.sentence("40", "NONE, and nothing happens, if it was never made");
        DoorLetters x = Due.told("village 1;letter 0");
        x.image(1);
        x.day();
        String was = Due.all(x);
        Due.is("IMAGE 0", x.back(0), -1);
        Due.is("IMAGE 2", x.back(2), -1);
        Due.is("IMAGE 3", x.back(3), -1);
        Due.is("nothing happens", Due.all(x).equals(was) ? 1 : 0, 1);
        Due.is("IMAGE 1", x.back(1), 0);
    }

    private static void backWithoutIt() {
        Due.sentence("40", "or without it");
        DoorLetters x = Due.told("village 1;letter 0");
        for (int k = 0; k < 4; k++) {
            x.image(k);
        }
        x.day();
        String was = Due.all(x);
        for (int wrong : WRONG) {
            Due.is("IMAGE " + wrong, x.back(wrong), -1);
        }
        Due.is("nothing happens", Due.all(x).equals(was) ? 1 : 0, 1);
    }

    private static void allButRulesAndTape() {
        Due.sentence("40", "IMAGES 0 to 3: all but the RULES and the TAPE, as it is (the RULE IN FORCE, what can be "
            + "UNDONE, too); gone back to, it is as it was (these stay).");
        DoorLetters x = Due.told("village 1;person 1 0 0;letter 1", "claim 0");
        x.image(0);
        Due.rule(x, "claim 1");
        x.force(1);
        x.image(1);
        x.feed(0, 0, 0, 0, 0);
        Due.is("back", x.back(0), 0);
        Due.is("RULES stay", x.count(3), 2);
        Due.is("the TAPE stays", x.count(13), 20);
        Due.is("the RULE IN FORCE", x.count(4), 0);
        Due.is("by it", x.day(), -2);
        x.end(0);
        Due.is("back", x.back(1), 0);
        Due.is("the TAPE stays", x.count(13), 0);
        Due.is("the RULE IN FORCE", x.count(4), 1);
        Due.is("by it", x.day(), 0);
    }

    private static void whatCanBeUndoneToo() {
        Due.sentence("40", "what can be UNDONE, too");
        DoorLetters x = Due.told("village 1;person 1 0 0;person 1 0 0;letter 1");
        for (int day = 0; day < 25; day++) {
            x.day();
        }
        x.image(0);
        for (int i = 0; i < 20; i++) {
            x.begin(1);
            x.begin(0);
        }
        x.live(0, 0);
        x.live(0, 0);
        x.live(1, 0);
        Due.is("back", x.back(0), 25);
        Due.is("20", x.count(11), 20);
        for (int more = 19; more >= 0; more--) {
            Due.is("UNDONE", x.undo(), more);
            Due.is("DAY", x.count(5), more + 5);
        }
        Due.is("no more", x.undo(), -2);
        // an IMAGE can be gone back to again, with all that
        Due.is("back", x.back(0), 25);
        Due.is("20", x.count(11), 20);
        // and where none could be UNDONE, none can
        DoorLetters y = Due.told("village 1;person 1 0 0;letter 1");
        y.image(0);
        y.day();
        y.back(0);
        Due.is("none", y.undo(), -2);
    }
}
