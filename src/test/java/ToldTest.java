/** Promises 1 to 8, 36 and 38: what is told, and looked at. */
public final class ToldTest {
    private static final String TWO = "village 3;person 3 2 1;person 5 9 0;letter 1;letter 6";

    public static void main(String[] args) {
        newObject();
        tapeIsFed();
        tapeEnds();
        villageIsTold();
        villageTakesThePlaceOfTheOneThereWas();
        faultyVillageLeavesAll();
        ruleIsTold();
        ruleIsForced();
        personIsLookedAt();
        letterIsLookedAt();
        seedIsSet();
        allIsCounted();
        Due.end("ToldTest");
    }

    private static void newObject() {
        DoorLetters x = new DoorLetters();
        for (int what = 0; what < 14; what++) {
            Due.is("1: count " + what, x.count(what), what == 4 ? -1 : 0);
        }
        Due.is("1: no IMAGE", x.back(0), -1);
        Due.is("1: no PERSON", x.person(0, 0), -1);
        Due.is("1: no LETTER", x.letter(0, 0), -1);
        Due.is("1: no ACT", x.undo(), -2);
        Due.is("1: no RULE", x.force(0), -2);
        Due.is("1: no DAY", x.day(), -1);
        Due.is("1: NONE", DoorLetters.NONE, -1);
        new DoorLetters().seed(9);
        Due.is("1: objects are apart", new DoorLetters().count(12), 0);
    }

    private static void tapeIsFed() {
        DoorLetters x = new DoorLetters();
        for (int i = 1; i <= 20; i++) {
            Due.is("2: feed", x.feed(-1, 0, 1, Integer.MAX_VALUE, Integer.MIN_VALUE), 20 * i);
        }
        Due.is("2: a feed too many", x.feed(0, 0, 0, 0, 0), -1);
        Due.is("2: none came", x.count(13), 400);
        Due.is("2: cut", x.end(381), 381);
        Due.is("2: no room by one byte", x.feed(0, 0, 0, 0, 0), -1);
        Due.is("2: cut", x.end(380), 380);
        Due.is("2: room to the last byte", x.feed(0, 0, 0, 0, 0), 400);

        // "vill" "age " "4;pe" "rson" " 9 1", then behind it " 2;l" "ette" "r 12", highest bytes first
        DoorLetters y = new DoorLetters();
        y.feed(0x76696C6C, 0x61676520, 0x343B7065, 0x72736F6E, 0x20392031);
        Due.is("2: behind the TAPE", y.feed(0x20323B6C, 0x65747465, 0x72203132, 0, 0), 40);
        y.end(32);
        Due.is("2: as a text", y.village(), 1);
        Due.is("2: as a text", y.person(0, 0), 9);
        Due.is("2: as a text", y.letter(0, 0), 12);
    }

    private static void tapeEnds() {
        DoorLetters x = new DoorLetters();
        Due.is("3: at the end", x.end(0), 0);
        Due.is("3: not so many", x.end(1), -1);
        Due.tape(x, "village 3;person 0 0 0");
        Due.is("3: bytes", x.count(13), 22);
        Due.is("3: below 0", x.end(-1), -1);
        Due.is("3: far below 0", x.end(Integer.MIN_VALUE), -1);
        Due.is("3: too many", x.end(23), -1);
        Due.is("3: nothing happened", x.count(13), 22);
        Due.is("3: all", x.end(22), 22);
        Due.is("3: first bytes", x.end(9), 9);
        Due.is("3: these alone", x.village(), 0);
    }

    private static void villageIsTold() {
        DoorLetters x = new DoorLetters();
        Due.is("4: PEOPLE", Due.village(x, TWO), 2);
        Due.is("4: the TAPE is empty", x.count(13), 0);
        Due.is("4: MATTERS", x.count(0), 3);
        Due.is("4: LETTERS", x.count(2), 2);
        Due.is("4: least", Due.village(x, "village 1"), 0);
        Due.is("4: blanks as one likes", Due.village(x, "  village8 ;  person 255 9   9;letter255  "), 1);
        Due.is("4: in the order told", x.person(0, 0), 255);
        Due.is("4: LETTERS and PEOPLE mixed",
            Due.village(x, "village 2;letter 1;person 1 0 0;letter 2;person 2 0 0"), 2);
        Due.is("4: in the order told", x.person(1, 0), 2);
        Due.is("4: in the order told", x.letter(1, 0), 2);
        Due.is("4: five digits", Due.village(x, "village 00008;person 00255 00009 00009"), 1);
        Due.is("4: as many as can be", Due.village(x, "village 1" + ";person 1 1 1".repeat(7) + ";letter 1".repeat(10)), 7);
        Due.is("4: as many as can be", x.count(2), 10);
    }

    private static void villageTakesThePlaceOfTheOneThereWas() {
        DoorLetters x = Due.told(TWO, "claim 1");
        x.seed(77);
        x.day();
        x.begin(1);
        x.note(0, 0);
        x.image(2);
        Due.is("4: again", Due.village(x, "village 2;person 1 1 3;letter 3"), 1);
        Due.is("4: DAY", x.count(5), 0);
        Due.is("4: rounds BEGIN", x.count(6), 0);
        Due.is("4: nobody HAS any", x.count(8), 0);
        Due.is("4: SHAME", x.count(9), 3);
        Due.is("4: no NOTES", x.count(10), 0);
        Due.is("4: no ACTS", x.count(11), 0);
        Due.is("4: the RULE IN FORCE stays", x.count(4), 0);
        Due.is("4: RULES stay", x.count(3), 1);
        Due.is("4: x stays", x.count(12), 77);
        Due.is("4: IMAGES stay", x.back(2), 1);
        Due.is("4: IMAGES stay", x.count(1), 2);
        Due.village(x, "village 2;letter 3");
        x.day();
        Due.is("4: PINNED", x.count(7), 1);
        Due.village(x, "village 2;letter 3");
        Due.is("4: none PINNED", x.count(7), 0);
    }

    private static void faultyVillageLeavesAll() {
        DoorLetters x = Due.told(TWO, "claim 1");
        x.day();
        x.begin(1);
        x.note(0, 0);
        Due.is("4: a FAULT", Due.village(x, "village 5;person 1 1"), -2 - (1 + 8 * 20));
        Due.is("4: the TAPE is empty", x.count(13), 0);
        Due.is("4: all stays", x.count(0), 3);
        Due.is("4: all stays", x.count(1), 2);
        Due.is("4: all stays", x.count(2), 2);
        Due.is("4: all stays", x.count(5), 1);
        Due.is("4: all stays", x.count(6), 1);
        Due.is("4: all stays", x.count(8), 1);
        Due.is("4: all stays", x.count(10), 1);
        Due.is("4: all stays", x.count(11), 2);
        Due.is("4: all stays", x.person(1, 1), 9);
    }

    private static void ruleIsTold() {
        DoorLetters x = new DoorLetters();
        for (int i = 0; i < 6; i++) {
            Due.is("5: number", Due.rule(x, "claim " + i), i);
            Due.is("5: the TAPE is empty", x.count(13), 0);
            Due.is("5: a FAULT", Due.rule(x, "claim" + " ".repeat(i)), i < 5 ? -2 - (1 + 8 * (5 + i)) : -1);
            Due.is("5: the TAPE", x.count(13), i < 5 ? 0 : 10);
        }
        Due.is("5: there are 6", Due.rule(x, "claim 1"), -1);
        Due.is("5: nothing happens", x.count(13), 7);
        Due.is("5: nothing happens", x.count(3), 6);
        Due.is("5: none IN FORCE by that", x.count(4), -1);
    }

    private static void ruleIsForced() {
        DoorLetters x = Due.told("village 2;person 1 0 0;letter 3");
        Due.rule(x, "claim 1");
        Due.rule(x, "claim 0");
        Due.is("6: none was", x.force(0), -1);
        Due.is("6: IN FORCE", x.day(), 0);
        Due.is("6: 0 was", x.force(1), 0);
        Due.is("6: IN FORCE", x.day(), -2);
        Due.is("6: none such", x.force(2), -2);
        Due.is("6: none such", x.force(-2), -2);
        Due.is("6: none such", x.force(Integer.MAX_VALUE), -2);
        Due.is("6: none such", x.force(Integer.MIN_VALUE), -2);
        Due.is("6: nothing happened", x.count(4), 1);
        Due.is("6: 1 was", x.force(-1), 1);
        Due.is("6: none IN FORCE", x.day(), -2);
        x.live(0, 1);
        Due.is("6: none IN FORCE", x.day(), 0);
        // four DAYS and one LIVE
        Due.is("6: no ACT", x.count(11), 5);
    }

    private static void personIsLookedAt() {
        DoorLetters x = Due.told(TWO, "claim 1 if person = 1");
        x.day();
        Due.is("7: LIVED", x.person(1, 0), 5);
        Due.is("7: PRIDE", x.person(0, 1), 1);
        Due.is("7: PRIDE", x.person(1, 1), 9);
        Due.is("7: SHAME", x.person(0, 2), 1);
        Due.is("7: HAS", x.person(1, 3), 1);
        Due.is("7: HAS", x.person(0, 3), 0);
        for (int wrong : new int[] {-1, 4, Integer.MIN_VALUE, Integer.MAX_VALUE}) {
            Due.is("7: what " + wrong, x.person(0, wrong), -1);
        }
        for (int wrong : new int[] {-1, 2, 7, Integer.MIN_VALUE, Integer.MAX_VALUE}) {
            Due.is("7: PERSON " + wrong, x.person(wrong, 0), -1);
        }
    }

    private static void letterIsLookedAt() {
        DoorLetters x = Due.told(TWO);
        x.day();
        x.day();
        Due.is("8: CLAIMS", x.letter(0, 0), 1);
        Due.is("8: CLAIMS", x.letter(1, 0), 6);
        Due.is("8: not PINNED", x.letter(0, 1), 0);
        Due.is("8: PINNED", x.letter(1, 1), 1);
        for (int wrong : new int[] {-1, 2, Integer.MIN_VALUE, Integer.MAX_VALUE}) {
            Due.is("8: what " + wrong, x.letter(0, wrong), -1);
            Due.is("8: LETTER " + wrong, x.letter(wrong, 0), -1);
        }
    }

    private static void seedIsSet() {
        DoorLetters x = new DoorLetters();
        Due.is("36: 0 at first", x.seed(2147483647), 0);
        Due.is("36: the most", x.count(12), 2147483647);
        Due.is("36: below 0", x.seed(-1), -1);
        Due.is("36: below 0", x.seed(Integer.MIN_VALUE), -1);
        Due.is("36: nothing happened", x.seed(0), 2147483647);
        Due.is("36: what it was", x.seed(5), 0);
    }

    private static void allIsCounted() {
        DoorLetters x = Due.told("village 5;person 3 2 4;person 5 9 5;person 0 0 0;letter 1;letter 6", "claim 1", "claim 0");
        x.day();
        x.day();
        x.force(1);
        x.day();
        x.day();
        x.begin(2);
        x.note(3, -1);
        x.seed(123);
        x.feed(0, 0, 0, 0, 0);
        // DAY 0: PERSON 0 LACKS nothing, SHAME 3; DAY 1: LACKS one, SHAME 4; then both are PINNED
        int[] due = {5, 3, 2, 2, 1, 4, 2, 3, 2, 9, 1, 5, 123, 20};
        for (int what = 0; what < due.length; what++) {
            Due.is("38: what " + what, x.count(what), due[what]);
        }
        for (int wrong : new int[] {-1, 14, Integer.MIN_VALUE, Integer.MAX_VALUE}) {
            Due.is("38: what " + wrong, x.count(wrong), -1);
        }
    }
}
