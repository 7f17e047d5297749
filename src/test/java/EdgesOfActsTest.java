/** Sentence by sentence, the edges that the document names of DAYS by hand and other ACTS: promises 9 to 14. */
public final class EdgesOfActsTest {
    private static final int[] FAR = {-1, Integer.MIN_VALUE, Integer.MAX_VALUE};
    private static final String THREE = "village 3;person 1 3 0;person 3 0 2;person 7 9 9;letter 2;letter 7;letter 0";

    public static void main(String[] args) {
        letterIsTheRest();
        ifThereAreLetters();
        behindTheLastPerson0();
        tillOneClaims();
        sumIsAbove0();
        zeroWithout();
        withoutARule();
        pride0AtLeast();
        hasAtMost999();
        shame30AtMost();
        shame0AtLeast();
        pinnedAlready();
        staysPinned();
        dayIsOneMore();
        nobodyOrNoLetter();
        withoutAVillage();
        atDay999();
        beginAtAnother();
        beginRefused();
        liveOrNot();
        liveRefused();
        givePinned();
        giveRefused();
        giveAtMost999();
        hushSome();
        hushRefused();
        last20();
        theLastFirst();
        howManyMore();
        noneCanBeUndone();
        Due.end("EdgesOfActsTest");
    }

    // ---- II and promise 9

    private static void letterIsTheRest() {
        Due.sentence("9", "The LETTER of a DAY is that of LETTERS whose number is the rest of DAY by how many there are.");
        DoorLetters x = Due.told("village 1;person 1 0 0;letter 0;letter 0;letter 0", "claim 0");
        int[] due = {1, 3, 7};
        for (int day = 0; day < 3; day++) {
            x.day();
            Due.is("PINNED on DAY " + day, x.count(7), due[day]);
        }
        x.give(0, 0);
        x.give(1, 0);
        x.day();
        Due.is("round to LETTER 0", x.count(7), 5);
        DoorLetters one = Due.told("village 1;letter 0");
        one.day();
        one.day();
        Due.is("one LETTER", one.count(7), 1);
        DoorLetters ten = Due.told("village 1;person 0 0 0" + ";letter 0".repeat(10), "claim 0");
        for (int day = 0; day < 10; day++) {
            ten.day();
            Due.is("the LETTER of DAY " + day, ten.count(7), (2 << day) - 1);
        }
        ten.give(0, 0);
        ten.day();
        Due.is("round to LETTER 0 of ten", ten.letter(0, 1), 1);
    }

    private static void ifThereAreLetters() {
        Due.sentence("9", "A DAY: if there are LETTERS, it is read by all PEOPLE");
        DoorLetters x = Due.told("village 1;person 0 5 5", "claim 1");
        Due.is("no LETTERS", x.day(), -2);
        Due.is("PRIDE, SHAME, HAS", x.person(0, 1) * 100 + x.person(0, 2) * 10 + x.person(0, 3), 550);
        Due.is("PINNED", x.count(7), 0);
        Due.is("DAY", x.count(5), 1);
        DoorLetters y = Due.told("village 1;letter 0", "claim 1");
        Due.is("no PEOPLE", y.day(), -2);
        Due.is("PINNED", y.count(7), 1);
    }

    private static void behindTheLastPerson0() {
        Due.sentence("9", "from the one at whom rounds BEGIN on, upwards, behind the last one PERSON 0");
        DoorLetters x = Due.told("village 1" + ";person 0 0 0".repeat(7) + ";letter 0", "claim 1 if seen = 1",
            "claim 1 if seen = 6");
        Due.is("from 0, the second", x.day(), 1);
        x.begin(5);
        Due.is("from 5, the second", x.day(), 6);
        x.begin(6);
        Due.is("from 6, the second", x.day(), 0);
        x.force(1);
        Due.is("from 6, the last", x.day(), 5);
        x.begin(0);
        Due.is("from 0, the last", x.day(), 6);
        DoorLetters one = Due.told("village 1;person 0 0 0;letter 0", "claim 1 if seen = 1", "claim 1 if seen = 0");
        Due.is("one alone reads it once", one.day(), -2);
        one.force(1);
        Due.is("one alone", one.day(), 0);
    }

    private static void tillOneClaims() {
        Due.sentence("9", "till one CLAIMS it");
        DoorLetters x = Due.told("village 1;person 1 5 0;person 1 5 0;person 1 5 0;letter 1", "claim 1 if person > 0");
        Due.is("the first who would", x.day(), 1);
        Due.is("who read it ahead", x.person(0, 1), 4);
        Due.is("who CLAIMED it", x.person(1, 1), 5);
        Due.is("who read nothing", x.person(2, 1), 5);
        Due.is("one CLAIMED it", x.count(8), 1);
    }

    private static void sumIsAbove0() {
        Due.sentence("9", "is above 0");
        String one = "village 1;person 0 0 0;letter 0";
        Due.is("1", Due.told(one, "claim 1").day(), 0);
        Due.is("0", Due.told(one, "claim 0").day(), -2);
        Due.is("-1", Due.told(one, "claim 0-1").day(), -2);
        Due.is("far below", Due.told(one, "claim 0-99999*99999").day(), -2);
        Due.is("far above", Due.told(one, "claim 99999*99999").day(), 0);
    }

    private static void zeroWithout() {
        Due.sentence("9", "first CLAUSE without a TEST, or whose TEST holds (0 without)");
        String one = "village 1;person 0 0 0;letter 0";
        Due.is("none holds", Due.told(one, "claim 1 if 1=2;claim 1 if 2=1").day(), -2);
        Due.is("the last holds", Due.told(one, "claim 0 if 1=2;claim 1 if 1=1").day(), 0);
        Due.is("the first holds", Due.told(one, "claim 0 if 1=1;claim 1 if 1=1").day(), -2);
        Due.is("the first without a TEST", Due.told(one, "claim 0;claim 1").day(), -2);
    }

    private static void withoutARule() {
        Due.sentence("9", "without a RULE who LACKS nothing");
        DoorLetters x = Due.told("village 8;person 0 0 0;person 127 0 0;person 255 0 0;letter 255;letter 0;letter 128");
        Due.is("all eight", x.day(), 2);
        Due.is("none", x.day(), 0);
        Due.is("one", x.day(), 2);
        x.live(2, 7);
        x.day();
        Due.is("one LACKED by all", x.letter(0, 1), 1);
    }

    private static void pride0AtLeast() {
        Due.sentence("9", "Who reads it, LACKS nothing, and does not CLAIM it, has 1 PRIDE less (0 at least).");
        DoorLetters x = Due.told("village 1;person 1 0 0;person 1 1 0;person 1 9 0;person 0 9 0;letter 1", "claim 0");
        x.day();
        int[] due = {0, 0, 8, 9};
        for (int person = 0; person < 4; person++) {
            Due.is("PRIDE of PERSON " + person, x.person(person, 1), due[person]);
        }
        for (int i = 0; i < 9; i++) {
            x.day();
        }
        Due.is("9 less 10", x.person(2, 1), 0);
        Due.is("who LACKS it", x.person(3, 1), 9);
    }

    /** More calls than an object promises: it takes DAYS to HAVE so many. */
    private static DoorLetters had(int claimed, int days) {
        DoorLetters x = Due.told("village 1;person 1 0 0;letter 1", "claim " + claimed + " - day");
        for (int day = 0; day < days; day++) {
            x.day();
        }
        return x;
    }

    private static void hasAtMost999() {
        Due.sentence("9", "Who CLAIMS it HAS 1 more (999 at most");
        DoorLetters x = had(2000, 998);
        Due.is("998", x.person(0, 3), 998);
        Due.is("1 more", x.ahead(0, 1, 0), 999);
        Due.is("2 more", x.ahead(0, 2, 0), 999);
        x.day();
        Due.is("999", x.person(0, 3), 999);
        Due.is("as the WORD", Due.rule(x, "claim 1 if has > 999") + x.force(1), 1);
        Due.is("never above", x.first(0), -2);
        Due.rule(x, "claim 1 if has = 999");
        x.force(2);
        Due.is("for ever so many", x.nobody(), -2);
    }

    private static void shame30AtMost() {
        Due.sentence("9", "and as much more SHAME as they LACK (30 at most)");
        DoorLetters x = Due.told("village 8;person 0 0 9;letter 1;letter 255;letter 255;letter 7;letter 1;letter 1;letter 255", "claim 1");
        for (int due : new int[] {10, 18, 26, 29, 30, 30, 30}) {
            x.day();
            Due.is("SHAME on DAY " + x.count(5), x.person(0, 2), due);
        }
        DoorLetters y = Due.told("village 8;person 0 0 5;letter 255", "claim 1");
        for (int due : new int[] {13, 21, 29, 30, 30}) {
            y.day();
            Due.is("8 more", y.person(0, 2), due);
        }
    }

    private static void shame0AtLeast() {
        Due.sentence("9", "1 less (0 at least), if they LACK nothing");
        DoorLetters x = Due.told("village 1;person 1 0 2;person 1 0 2;letter 1", "claim 1 if day < 4; claim 0");
        for (int due : new int[] {1, 0, 0, 0, 0}) {
            x.day();
            Due.is("SHAME", x.person(0, 2), due);
        }
        Due.is("who reads nothing, or lets it by", x.person(1, 2), 2);
    }

    private static void pinnedAlready() {
        Due.sentence("9", "If nobody CLAIMS it, it is PINNED (it can be already)");
        DoorLetters x = Due.told("village 1;person 1 0 0;letter 1", "claim 0");
        Due.is("nobody", x.day(), -2);
        Due.is("PINNED", x.letter(0, 1), 1);
        Due.is("nobody again", x.day(), -2);
        Due.is("PINNED", x.count(7), 1);
        Due.is("once", x.give(0, 0), 1);
        Due.is("PINNED no more", x.give(0, 0), -1);
    }

    private static void staysPinned() {
        Due.sentence("9", "one that is PINNED and is CLAIMED later stays PINNED, too");
        DoorLetters x = Due.told("village 1;person 1 0 0;letter 1;letter 1", "claim day");
        x.day();
        x.day();
        Due.is("CLAIMED", x.day(), 0);
        Due.is("stays PINNED", x.letter(0, 1), 1);
        Due.is("the other one isn't", x.letter(1, 1), 0);
        Due.is("it can be given", x.give(0, 0), 3);
    }

    private static void dayIsOneMore() {
        Due.sentence("9", "DAY is 1 more (999 at most by hand).");
        DoorLetters x = had(0, 998);
        Due.is("998", x.count(5), 998);
        Due.is("the last DAY by hand", x.day(), -2);
        Due.is("999", x.count(5), 999);
        x.day();
        Due.is("999", x.count(5), 999);
        Due.is("beyond, not by hand", x.nobody(), 999);
    }

    private static void nobodyOrNoLetter() {
        Due.sentence("9", "A DAY: who CLAIMS its LETTER (-2: nobody, or there is none)");
        Due.is("who", Due.told(THREE).day(), 1);
        Due.is("nobody", Due.told(THREE, "claim 0").day(), -2);
        Due.is("no LETTER", Due.told("village 1;person 1 1 1").day(), -2);
        Due.is("no PEOPLE", Due.told("village 1;letter 0").day(), -2);
        Due.is("neither", Due.told("village 1").day(), -2);
    }

    private static void withoutAVillage() {
        Due.sentence("9", "NONE, and nothing happens, without a VILLAGE");
        DoorLetters x = new DoorLetters();
        Due.is("a DAY", x.day(), -1);
        Due.is("DAY", x.count(5), 0);
        Due.is("ACTS", x.count(11), 0);
    }

    private static void atDay999() {
        Due.sentence("9", "or at DAY 999");
        DoorLetters x = had(500, 999);
        String was = Due.all(x);
        Due.is("a DAY", x.day(), -1);
        Due.is("nothing happens", Due.all(x).equals(was) ? 1 : 0, 1);
        Due.is("UNDONE", x.undo(), 19);
        Due.is("DAY", x.count(5), 998);
        Due.is("a DAY", x.day(), -2);
        Due.is("a DAY", x.day(), -1);
    }

    // ---- promise 10

    private static void beginAtAnother() {
        Due.sentence("10", "BEGIN: at whom they did");
        DoorLetters x = Due.told(THREE);
        Due.is("at the last one", x.begin(2), 0);
        Due.is("at the first", x.begin(0), 2);
        Due.is("now", x.count(6), 0);
    }

    private static void beginRefused() {
        Due.sentence("10", "NONE, and nothing happens, without these (another one)");
        DoorLetters x = Due.told(THREE);
        Due.is("the same", x.begin(0), -1);
        x.begin(1);
        String was = Due.all(x);
        Due.is("the same", x.begin(1), -1);
        Due.is("PERSON 3 of three", x.begin(3), -1);
        for (int wrong : FAR) {
            Due.is("PERSON " + wrong, x.begin(wrong), -1);
        }
        Due.is("nothing happens", Due.all(x).equals(was) ? 1 : 0, 1);
        Due.is("without PEOPLE", Due.told("village 1").begin(0), -1);
        Due.is("without a VILLAGE", new DoorLetters().begin(0), -1);
    }

    // ---- promise 11

    private static void liveOrNot() {
        Due.sentence("11", "LIVE: LIVED then");
        DoorLetters x = Due.told("village 8;person 0 0 0;person 255 0 0");
        Due.is("the first MATTER", x.live(0, 0), 1);
        Due.is("the last MATTER", x.live(0, 7), 129);
        Due.is("if they had", x.live(1, 7), 127);
        Due.is("if they had", x.live(1, 0), 126);
        Due.is("of MATTERS one", Due.told("village 1;person 0 0 0").live(0, 0), 1);
    }

    private static void liveRefused() {
        Due.sentence("11", "NONE, and nothing happens, without these");
        DoorLetters x = Due.told(THREE);
        String was = Due.all(x);
        Due.is("MATTER 3 of three", x.live(0, 3), -1);
        Due.is("PERSON 3 of three", x.live(3, 0), -1);
        for (int wrong : FAR) {
            Due.is("MATTER " + wrong, x.live(0, wrong), -1);
            Due.is("PERSON " + wrong, x.live(wrong, 0), -1);
        }
        Due.is("MATTER 32", x.live(0, 32), -1);
        Due.is("MATTER 8 of eight", Due.told("village 8;person 0 0 0").live(0, 8), -1);
        Due.is("nothing happens", Due.all(x).equals(was) ? 1 : 0, 1);
        Due.is("without PEOPLE", Due.told("village 1").live(0, 0), -1);
        Due.is("without a VILLAGE", new DoorLetters().live(0, 0), -1);
    }

    // ---- promise 12

    private static void givePinned() {
        Due.sentence("12", "GIVE: how many they HAVE then");
        DoorLetters x = Due.told("village 1;person 1 0 0;person 1 0 0" + ";letter 0".repeat(10), "claim 0");
        for (int day = 0; day < 10; day++) {
            x.day();
        }
        Due.is("the last LETTER", x.give(9, 1), 1);
        Due.is("the first LETTER", x.give(0, 1), 2);
        Due.is("to another", x.give(4, 0), 1);
        Due.is("PINNED", x.count(7), 1023 - 512 - 16 - 1);
    }

    private static void giveRefused() {
        Due.sentence("12", "NONE, and nothing happens, without these (PINNED)");
        DoorLetters x = Due.told(THREE, "claim 1 if letter = 1");
        Due.is("none PINNED yet", x.give(0, 0), -1);
        x.day();
        x.day();
        String was = Due.all(x);
        Due.is("CLAIMED", x.give(1, 0), -1);
        Due.is("not read yet", x.give(2, 0), -1);
        Due.is("LETTER 3 of three", x.give(3, 0), -1);
        Due.is("PERSON 3 of three", x.give(0, 3), -1);
        for (int wrong : FAR) {
            Due.is("LETTER " + wrong, x.give(wrong, 0), -1);
            Due.is("PERSON " + wrong, x.give(0, wrong), -1);
        }
        Due.is("LETTER 32", x.give(32, 0), -1);
        Due.is("nothing happens", Due.all(x).equals(was) ? 1 : 0, 1);
        x.give(0, 0);
        Due.is("given already", x.give(0, 1), -1);
        DoorLetters y = Due.told("village 1;letter 0");
        y.day();
        Due.is("without PEOPLE", y.give(0, 0), -1);
        Due.is("without a VILLAGE", new DoorLetters().give(0, 0), -1);
    }

    private static void giveAtMost999() {
        // by hand none can HAVE more than there were DAYS: 999
        Due.sentence("12", "a PERSON HAS 1 more, 999 at most");
        DoorLetters x = had(998, 999);
        Due.is("998", x.person(0, 3), 998);
        Due.is("1 more", x.give(0, 0), 999);
        Due.is("no more", x.give(0, 0), -1);
        Due.is("999", x.person(0, 3), 999);
    }

    // ---- promise 13

    private static void hushSome() {
        Due.sentence("13", "HUSH: how much SHAME they had");
        DoorLetters x = Due.told("village 8;person 0 0 1;person 0 0 9;letter 255", "claim person");
        Due.is("1", x.hush(0), 1);
        x.day();
        x.day();
        x.day();
        Due.is("30", x.hush(1), 30);
        Due.is("none", x.count(9), 0);
    }

    private static void hushRefused() {
        Due.sentence("13", "NONE, and nothing happens, without one who has any");
        DoorLetters x = Due.told(THREE);
        String was = Due.all(x);
        Due.is("without any", x.hush(0), -1);
        Due.is("PERSON 3 of three", x.hush(3), -1);
        for (int wrong : FAR) {
            Due.is("PERSON " + wrong, x.hush(wrong), -1);
        }
        Due.is("nothing happens", Due.all(x).equals(was) ? 1 : 0, 1);
        x.hush(1);
        Due.is("hushed already", x.hush(1), -1);
        Due.is("ACTS", x.count(11), 1);
        Due.is("without a VILLAGE", new DoorLetters().hush(0), -1);
    }

    // ---- promise 14

    private static void last20() {
        Due.sentence("14", "The last 20 can be UNDONE");
        for (int acts = 19; acts <= 21; acts++) {
            DoorLetters x = Due.told("village 1;person 1 0 0;letter 1");
            for (int i = 0; i < acts; i++) {
                x.day();
            }
            Due.is("of " + acts, x.count(11), Math.min(20, acts));
            for (int more = Math.min(20, acts) - 1; more >= 0; more--) {
                Due.is("more of " + acts, x.undo(), more);
            }
            Due.is("DAY of " + acts, x.count(5), Math.max(0, acts - 20));
            Due.is("one more of " + acts, x.undo(), -2);
            Due.is("DAY of " + acts, x.count(5), Math.max(0, acts - 20));
        }
        // round and round: what was UNDONE makes room for others
        DoorLetters x = Due.told("village 1;person 1 0 0;letter 1");
        for (int i = 0; i < 50; i++) {
            x.day();
        }
        for (int i = 0; i < 5; i++) {
            x.undo();
        }
        for (int i = 0; i < 4; i++) {
            x.live(0, 0);
        }
        Due.is("15 and 4", x.count(11), 19);
        for (int i = 0; i < 19; i++) {
            x.undo();
        }
        Due.is("DAY 30, and no further", x.undo() * 100 + x.count(5), -200 + 30);
    }

    private static void theLastFirst() {
        Due.sentence("14", "the last first");
        DoorLetters x = Due.told(THREE, "claim 0 if day = 0; claim 1");
        String[] was = new String[6];
        was[0] = Due.all(x);
        x.day();
        was[1] = Due.all(x);
        x.begin(2);
        was[2] = Due.all(x);
        x.live(1, 2);
        was[3] = Due.all(x);
        x.give(0, 0);
        was[4] = Due.all(x);
        x.hush(2);
        was[5] = Due.all(x);
        x.day();
        for (int more = 5; more >= 0; more--) {
            Due.is("more", x.undo(), more);
            Due.is("as it was ahead of ACT " + more, Due.all(x).equals(was[more]) ? 1 : 0, 1);
        }
    }

    private static void howManyMore() {
        Due.sentence("14", "The last ACT is UNDONE: how many more can be");
        DoorLetters x = Due.told(THREE);
        x.day();
        Due.is("none more", x.undo(), 0);
        x.day();
        x.force(-1);
        x.seed(3);
        x.note(0, 0);
        x.image(0);
        x.feed(0, 0, 0, 0, 0);
        x.begin(0);
        x.live(0, 3);
        x.give(0, 0);
        x.hush(0);
        x.ahead(0, 9, 0);
        Due.is("what is no ACT, or refused, can't be", x.count(11), 1);
        Due.is("none more", x.undo(), 0);
        Due.is("what is no ACT stays", x.count(12) * 1000 + x.count(10) * 100 + x.count(13), 3120);
    }

    private static void noneCanBeUndone() {
        Due.sentence("14", "-2, and nothing happens: none can");
        DoorLetters x = Due.told(THREE);
        String was = Due.all(x);
        Due.is("none yet", x.undo(), -2);
        Due.is("nothing happens", Due.all(x).equals(was) ? 1 : 0, 1);
        x.day();
        x.undo();
        Due.is("none any more", x.undo(), -2);
        Due.is("nothing happens", Due.all(x).equals(was) ? 1 : 0, 1);
        x.day();
        Due.village(x, THREE);
        Due.is("in another VILLAGE", x.undo(), -2);
        Due.is("without a VILLAGE", new DoorLetters().undo(), -2);
    }
}
