/** Promises 9 to 14, 39 and 40: ACTS, what is UNDONE, and IMAGES. */
public final class ActsTest {
    private static final int[] WRONG = {-1, 3, 31, 32, Integer.MIN_VALUE, Integer.MAX_VALUE};
    private static final String THREE = "village 3;person 1 3 0;person 3 0 2;person 7 9 9;letter 2;letter 7;letter 0";

    public static void main(String[] args) {
        dayWithoutARule();
        dayByARule();
        dayWithoutPeopleOrLetters();
        prideAndShameHaveEnds();
        roundsBegin();
        matterIsLived();
        letterIsGiven();
        shameIsHushed();
        actsAreUndone();
        twentyCanBeUndone();
        imagesAreMade();
        imagesKeepAll();
        imagesKeepWhatCanBeUndone();
        daysAreCountedTo999();
        Due.end("ActsTest");
    }

    private static void dayWithoutARule() {
        DoorLetters x = Due.told(THREE);
        Due.is("9: who LACKS nothing", x.day(), 1);
        Due.is("9: HAS 1 more", x.person(1, 3), 1);
        Due.is("9: 1 SHAME less", x.person(1, 2), 1);
        Due.is("9: who LACKS something keeps PRIDE", x.person(0, 1), 3);
        Due.is("9: DAY", x.count(5), 1);
        Due.is("9: the next LETTER", x.day(), 2);
        Due.is("9: SHAME", x.person(2, 2), 8);
        Due.is("9: nothing CLAIMED, nothing LACKED", x.day(), 0);
        Due.is("9: no SHAME below 0", x.person(0, 2), 0);
        Due.is("9: the first LETTER again", x.day(), 1);
        Due.is("9: HAS 1 more", x.person(1, 3), 2);
        Due.is("9: none PINNED", x.count(7), 0);
        Due.is("9: without a VILLAGE", new DoorLetters().day(), -1);
    }

    private static void dayByARule() {
        // who LACKS nothing lets it by, who LACKS something CLAIMS it if nobody read it ahead
        DoorLetters x = Due.told(THREE, "claim lacks if seen = 0; claim 0");
        Due.is("9: CLAIMED by the first", x.day(), 0);
        Due.is("9: SHAME", x.person(0, 2), 1);
        Due.is("9: those behind read nothing", x.person(2, 1), 9);
        Due.is("9: CLAIMED by the first", x.day(), 0);
        Due.is("9: SHAME by how much", x.person(0, 2), 3);
        Due.is("9: nobody", x.day(), -2);
        Due.is("9: PINNED", x.count(7), 4);
        Due.is("9: 1 PRIDE less", x.person(0, 1), 2);
        Due.is("9: PRIDE not below 0", x.person(1, 1), 0);
        Due.is("9: 1 PRIDE less", x.person(2, 1), 8);
        x.day();
        x.day();
        Due.is("9: nobody again", x.day(), -2);
        Due.is("9: PINNED already", x.count(7), 4);
        Due.rule(x, "claim 1 if person = 2");
        x.force(1);
        Due.is("9: rounds BEGIN at 0", x.day(), 2);
        x.day();
        Due.is("9: a PINNED one is CLAIMED", x.day(), 2);
        Due.is("9: it stays PINNED", x.count(7), 4);
        Due.is("9: PRIDE of who let it by", x.person(0, 1), 0);

        // PERSON 1 BEGINS: then 2, then 0
        DoorLetters y = Due.told(THREE, "claim seen - 1");
        y.begin(1);
        Due.is("9: behind the last one PERSON 0", y.day(), 0);
        Due.is("9: who LACKS nothing lost PRIDE", y.person(2, 1), 8);
        Due.is("9: who CLAIMED it keeps PRIDE", y.person(0, 1), 3);
        // day and has are as they are when it is read
        DoorLetters z = Due.told("village 1;person 1 0 0;person 1 0 0;letter 1", "claim day + 1 - 2 * has if person = 0;claim 1");
        Due.is("9: DAY 0", z.day(), 0);
        Due.is("9: DAY 1", z.day(), 1);
        Due.is("9: DAY 2", z.day(), 0);
    }

    private static void dayWithoutPeopleOrLetters() {
        DoorLetters x = Due.told("village 2;letter 0;letter 1");
        Due.is("9: no PEOPLE", x.day(), -2);
        Due.is("9: PINNED", x.count(7), 1);
        Due.is("9: DAY", x.count(5), 1);
        DoorLetters y = Due.told("village 2;person 1 5 5", "claim 1");
        Due.is("9: no LETTERS", y.day(), -2);
        Due.is("9: DAY", y.count(5), 1);
        Due.is("9: none PINNED", y.count(7), 0);
        Due.is("9: nothing else", y.person(0, 1) * 100 + y.person(0, 2) * 10 + y.person(0, 3), 550);
        Due.is("9: an ACT", y.count(11), 1);
    }

    private static void prideAndShameHaveEnds() {
        DoorLetters x = Due.told("village 8;person 0 9 9;letter 255", "claim 1");
        int[] due = {17, 25, 30, 30};
        for (int shame : due) {
            x.day();
            Due.is("9: SHAME is 30 at most", x.person(0, 2), shame);
        }
        DoorLetters z = Due.told("village 8;person 255 2 2;letter 255", "claim 1 if day > 3");
        for (int pride : new int[] {1, 0, 0, 0, 0}) {
            z.day();
            Due.is("9: PRIDE", z.person(0, 1), pride);
        }
        for (int shame : new int[] {0, 0}) {
            z.day();
            Due.is("9: SHAME", z.person(0, 2), shame);
        }
    }

    private static void roundsBegin() {
        DoorLetters x = Due.told(THREE);
        for (int wrong : WRONG) {
            Due.is("10: PERSON " + wrong, x.begin(wrong), -1);
        }
        Due.is("10: not another one", x.begin(0), -1);
        Due.is("10: nothing happened", x.count(11), 0);
        Due.is("10: at whom they did", x.begin(2), 0);
        Due.is("10: at whom they did", x.begin(1), 2);
        Due.is("10: now", x.count(6), 1);
        Due.is("10: ACTS", x.count(11), 2);
        x.begin(2);
        Due.is("10: from there on", x.day(), 2);
        Due.is("10: without a VILLAGE", new DoorLetters().begin(0), -1);
        Due.is("10: without PEOPLE", Due.told("village 1").begin(0), -1);
    }

    private static void matterIsLived() {
        DoorLetters x = Due.told(THREE);
        for (int wrong : WRONG) {
            Due.is("11: PERSON " + wrong, x.live(wrong, 0), -1);
            Due.is("11: MATTER " + wrong, x.live(0, wrong), -1);
        }
        Due.is("11: nothing happened", x.count(11), 0);
        Due.is("11: LIVED", x.live(0, 2), 5);
        Due.is("11: has not", x.live(0, 0), 4);
        Due.is("11: LIVED again", x.live(0, 0), 5);
        Due.is("11: as told", x.person(0, 0), 5);
        Due.is("11: others", x.person(1, 0), 3);
        Due.is("11: ACTS", x.count(11), 3);
    }

    private static void letterIsGiven() {
        DoorLetters x = Due.told(THREE, "claim 0");
        Due.is("12: not PINNED", x.give(0, 0), -1);
        x.day();
        x.day();
        for (int wrong : WRONG) {
            Due.is("12: LETTER " + wrong, x.give(wrong, 0), -1);
            Due.is("12: PERSON " + wrong, x.give(0, wrong), -1);
        }
        Due.is("12: nothing happened", x.count(11), 2);
        Due.is("12: HAS", x.give(1, 2), 1);
        Due.is("12: PINNED no more", x.count(7), 1);
        Due.is("12: PINNED no more", x.give(1, 2), -1);
        Due.is("12: HAS", x.give(0, 2), 2);
        // on both DAYS 1 PRIDE less
        Due.is("12: neither PRIDE nor SHAME", x.person(2, 1) * 10 + x.person(2, 2), 79);
        Due.is("12: DAY", x.count(5), 2);
    }

    private static void shameIsHushed() {
        DoorLetters x = Due.told(THREE);
        for (int wrong : WRONG) {
            Due.is("13: PERSON " + wrong, x.hush(wrong), -1);
        }
        Due.is("13: without any", x.hush(0), -1);
        Due.is("13: how much", x.hush(2), 9);
        Due.is("13: none", x.person(2, 2), 0);
        Due.is("13: none any more", x.hush(2), -1);
        Due.is("13: how much", x.hush(1), 2);
        Due.is("13: ACTS", x.count(11), 2);
    }

    private static String all(DoorLetters x) {
        StringBuilder b = new StringBuilder();
        for (int what : new int[] {0, 1, 2, 5, 6, 7, 8, 9}) {
            b.append(x.count(what)).append(' ');
        }
        for (int p = 0; p < 7; p++) {
            for (int what = 0; what < 4; what++) {
                b.append(x.person(p, what)).append(',');
            }
        }
        return b.toString();
    }

    private static void actsAreUndone() {
        DoorLetters x = Due.told(THREE, "claim 1 if person = 1 and letter < 2");
        String[] was = new String[9];
        was[0] = all(x);
        x.day();
        was[1] = all(x);
        x.begin(2);
        was[2] = all(x);
        x.day();
        was[3] = all(x);
        x.live(0, 1);
        was[4] = all(x);
        x.day();
        was[5] = all(x);
        x.hush(2);
        was[6] = all(x);
        x.give(2, 0);
        was[7] = all(x);
        x.seed(5);
        x.note(1, 1);
        x.force(-1);
        for (int more = 6; more >= 0; more--) {
            Due.is("14: how many more", x.undo(), more);
            Due.holds("14: as it was ahead of ACT " + more, all(x).equals(was[more]));
        }
        Due.is("14: none can", x.undo(), -2);
        Due.holds("14: nothing happened", all(x).equals(was[0]));
        Due.is("14: x is no ACT's", x.count(12), 5);
        Due.is("14: NOTES are no ACT's", x.count(10), 1);
        Due.is("14: the RULE IN FORCE is no ACT's", x.count(4), -1);
        Due.is("14: without a VILLAGE", new DoorLetters().undo(), -2);
    }

    private static void twentyCanBeUndone() {
        DoorLetters x = Due.told(THREE);
        for (int i = 0; i < 23; i++) {
            x.day();
        }
        Due.is("14: 20 at most", x.count(11), 20);
        for (int more = 19; more >= 5; more--) {
            Due.is("14: how many more", x.undo(), more);
        }
        Due.is("14: DAY", x.count(5), 8);
        for (int i = 0; i < 10; i++) {
            x.live(0, 0);
        }
        Due.is("14: 15 again", x.count(11), 15);
        for (int more = 14; more >= 0; more--) {
            Due.is("14: how many more", x.undo(), more);
        }
        Due.is("14: the oldest can't", x.undo(), -2);
        Due.is("14: DAY", x.count(5), 3);
    }

    private static void imagesAreMade() {
        DoorLetters x = new DoorLetters();
        for (int wrong : new int[] {-1, 4, Integer.MIN_VALUE, Integer.MAX_VALUE}) {
            Due.is("39: another k " + wrong, x.image(wrong), -1);
            Due.is("40: without it " + wrong, x.back(wrong), -1);
        }
        for (int k = 0; k < 4; k++) {
            Due.is("40: never made", x.back(k), -1);
        }
        Due.is("39: where nothing was told yet", x.image(3), 0);
        Due.village(x, THREE);
        x.day();
        x.day();
        Due.is("39: DAY", x.image(0), 2);
        Due.is("40: nothing told", x.back(3), 0);
        Due.is("40: nothing told", x.count(1), 0);
        Due.is("40: nothing told", x.day(), -1);
        Due.is("40: DAY", x.back(0), 2);
        Due.is("40: PEOPLE", x.count(1), 3);
        x.day();
        Due.is("39: made again", x.image(0), 3);
        x.day();
        Due.is("40: as often as one likes", x.back(0), 3);
        x.day();
        Due.is("40: as often as one likes", x.back(0), 3);
    }

    private static void imagesKeepAll() {
        DoorLetters x = Due.told(THREE, "claim 1 if person = 1", "claim 0");
        x.day();
        x.hush(2);
        x.note(0, 1);
        x.seed(9);
        x.live(0, 2);
        String was = all(x);
        x.image(1);
        x.feed(0, 0, 0, 0, 0);
        Due.village(x, "village 1;letter 1");
        x.force(1);
        x.seed(8);
        x.note(0, -1);
        x.note(1, -1);
        x.day();
        x.image(2);
        Due.rule(x, "claim 1");
        x.feed(0, 0, 0, 0, 0);
        Due.is("40: DAY", x.back(1), 1);
        Due.holds("40: as it was", all(x).equals(was));
        Due.is("40: LETTERS", x.letter(1, 0), 7);
        Due.is("40: NOTES", x.count(10), 1);
        // none, and RULE 0
        Due.is("40: these NOTES", x.ruled(0), 2);
        Due.is("40: these NOTES", x.ruled(1), -1);
        Due.is("40: x", x.count(12), 9);
        Due.is("40: the RULE IN FORCE", x.count(4), 0);
        Due.is("40: RULES stay", x.count(3), 3);
        Due.is("40: the TAPE stays", x.count(13), 20);
        Due.is("40: what can be UNDONE", x.undo(), 2);
        Due.is("40: what can be UNDONE", x.person(0, 0), 1);
        Due.is("40: what can be UNDONE", x.undo(), 1);
        Due.is("40: what can be UNDONE", x.person(2, 2), 9);
        Due.is("40: IMAGES stay", x.back(2), 1);
        Due.is("40: IMAGES stay", x.count(7), 1);
        Due.is("40: the text as told", x.back(1), 1);
        // PERSON 0 LIVED 1 by the text, whatever LIVE did since
        x.note(-1, 0);
        x.note(1, 1);
        Due.is("40: the text as told", x.ruled(1), 0);
    }

    private static void imagesKeepWhatCanBeUndone() {
        DoorLetters x = Due.told(THREE);
        x.begin(2);
        x.live(0, 1);
        x.begin(1);
        x.note(3, 1);
        x.image(0);
        x.undo();
        x.undo();
        x.undo();
        x.live(1, 0);
        x.begin(1);
        x.begin(0);
        x.note(-1, 0);
        x.note(4, 1);
        x.image(1);
        Due.is("40: back", x.back(0), 0);
        Due.is("40: rounds BEGIN", x.count(6), 1);
        Due.is("40: UNDONE from there", x.undo(), 2);
        Due.is("40: rounds BEGIN", x.count(6), 2);
        Due.is("40: UNDONE from there", x.undo(), 1);
        Due.is("40: LIVED", x.person(0, 0) * 10 + x.person(1, 0), 13);
        Due.is("40: UNDONE from there", x.undo(), 0);
        Due.is("40: rounds BEGIN", x.count(6), 0);
        // DAY 3 is as DAY 0, PERSON 1's; DAY 4 is PERSON 2's
        Due.is("40: the NOTE of DAY 3", x.ruled(0), 1);
        Due.is("40: back", x.back(1), 0);
        Due.is("40: the NOTE of DAY 4", x.ruled(0), 0);
        Due.is("40: LIVED", x.person(0, 0) * 10 + x.person(1, 0), 12);
    }

    /** More calls than an object promises: it is the DAYS that count here. */
    private static void daysAreCountedTo999() {
        DoorLetters x = Due.told("village 1;person 1 0 0;letter 1;letter 0");
        for (int i = 0; i < 998; i++) {
            x.day();
        }
        Due.is("9: DAY 998", x.day(), 0);
        Due.is("9: DAY 999", x.count(5), 999);
        Due.is("9: at DAY 999", x.day(), -1);
        Due.is("9: nothing happens", x.count(5) * 1000 + x.person(0, 3), 999999);
        Due.is("9: nothing happens", x.count(11), 20);
        Due.is("24: 999 at most", x.ahead(0, 100, 0), 999);
        Due.is("25: beyond 999", x.first(0), 999);
        Due.is("26: beyond 999", x.nobody(), -2);
        x.live(0, 0);
        // on DAY 999 the LETTER that CLAIMS nothing, on DAY 1000 the other one
        Due.is("25: beyond 999", x.first(0), 999);
        Due.is("26: beyond 999", x.nobody(), 1000);
    }
}
