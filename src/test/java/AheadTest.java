/** Promises 24 to 28, 31 and 37: what is asked of how it goes on. */
public final class AheadTest {
    private static final int[] WRONG = {-1, 32, Integer.MIN_VALUE, Integer.MAX_VALUE};

    public static void main(String[] args) {
        ahead();
        aheadWithoutARule();
        first();
        nobody();
        often();
        start();
        alike();
        rains();
        nothingChanges();
        Due.end("AheadTest");
    }

    private static void ahead() {
        // LETTERS 0 to 2 by turns: PERSON 0 LACKS one of 1, PERSON 1 CLAIMS what is left, 2 is nobody's
        DoorLetters x = Due.told("village 2;person 1 0 0;person 3 0 3;letter 1;letter 3;letter 0",
            "claim 1 if person = 0 and letter = 1;claim 1 if person = 1 and letter = 0", "claim 0");
        Due.is("24: as it is", x.ahead(0, 0, 0), 0);
        Due.is("24: as it is", x.ahead(1, 0, 1), 3);
        Due.is("24: as it is", x.ahead(0, 0, 2), 0);
        Due.is("24: DAY 0", x.ahead(1, 1, 0), 1);
        Due.is("24: DAY 0", x.ahead(1, 1, 1), 2);
        Due.is("24: two DAYS", x.ahead(0, 2, 1), 1);
        Due.is("24: two DAYS", x.ahead(0, 2, 2), 0);
        Due.is("24: three DAYS", x.ahead(0, 3, 2), 4);
        Due.is("24: 100 DAYS", x.ahead(1, 100, 0), 34);
        Due.is("24: 100 DAYS", x.ahead(0, 100, 0), 33);
        Due.is("24: 100 DAYS", x.ahead(0, 100, 1), 30);
        x.day();
        Due.is("24: how many they HAVE by then", x.ahead(1, 3, 0), 2);
        x.force(1);
        Due.is("24: by the RULE IN FORCE", x.ahead(0, 100, 2), 7);
        for (int wrong : WRONG) {
            Due.is("24: PERSON " + wrong, x.ahead(wrong, 1, 0), -1);
            Due.is("24: PERSON " + wrong, x.ahead(wrong, 1, 1), -1);
            Due.is("24: no PERSON is asked for " + wrong, x.ahead(wrong, 1, 2), 2);
            Due.is("24: what " + wrong, x.ahead(0, 1, wrong), -1);
        }
        Due.is("24: PERSON 2", x.ahead(2, 1, 0), -1);
        Due.is("24: what 3", x.ahead(0, 1, 3), -1);
        Due.is("24: below 0", x.ahead(0, -1, 0), -1);
        Due.is("24: 101", x.ahead(0, 101, 2), -1);
        Due.is("24: without a VILLAGE", new DoorLetters().ahead(0, 1, 2), -1);
        Due.is("24: without PEOPLE", Due.told("village 1;letter 0").ahead(0, 1, 2), 1);
    }

    private static void aheadWithoutARule() {
        DoorLetters x = Due.told("village 2;person 1 0 0;person 3 0 0;letter 1;letter 3;letter 2");
        Due.is("24: who LACKS nothing", x.ahead(0, 3, 0), 1);
        Due.is("24: who LACKS nothing", x.ahead(1, 3, 0), 2);
        Due.is("25: the first they fit", x.first(1), 1);
        x.begin(1);
        Due.is("24: from where rounds BEGIN", x.ahead(0, 3, 0), 0);
        Due.is("24: from where rounds BEGIN", x.ahead(1, 3, 0), 3);
        Due.is("25: from where rounds BEGIN", x.first(1), 0);
        Due.is("25: from where rounds BEGIN", x.first(0), -2);
        Due.is("27: from where rounds BEGIN", x.often(3, 1), 3);
        x.live(1, 1);
        Due.is("26: LIVED", x.nobody(), 1);
        Due.is("24: LIVED", x.ahead(0, 100, 2), 6);
    }

    private static void first() {
        String two = "village 1;person 1 0 0;person 1 0 0;letter 1";
        DoorLetters x = Due.told(two, "claim 1 if person = 1 and day >= 199", "claim 1 if person = 1 and day >= 200");
        Due.is("25: the last of 200", x.first(1), 199);
        Due.is("25: not they", x.first(0), -2);
        x.force(1);
        Due.is("25: one too late", x.first(1), -2);
        x.day();
        Due.is("25: this DAY the first of 200", x.first(1), 200);
        x.force(-1);
        Due.is("25: this DAY", x.first(0), 1);
        Due.is("25: never", x.first(1), -2);
        Due.is("25: PERSON 2", x.first(2), -1);
        for (int wrong : WRONG) {
            Due.is("25: PERSON " + wrong, x.first(wrong), -1);
        }
        Due.is("25: without a VILLAGE", new DoorLetters().first(0), -1);
        Due.is("25: without LETTERS", Due.told("village 1;person 1 0 0", "claim 1").first(0), -2);
    }

    private static void nobody() {
        String two = "village 1;person 1 0 0;person 1 0 0;letter 1";
        DoorLetters x = Due.told(two, "claim 199 - day", "claim 200 - day", "claim 1");
        Due.is("26: the last of 200", x.nobody(), 199);
        x.force(1);
        Due.is("26: one too late", x.nobody(), -2);
        x.day();
        Due.is("26: this DAY the first of 200", x.nobody(), 200);
        x.force(2);
        Due.is("26: in none", x.nobody(), -2);
        Due.is("26: without a VILLAGE", new DoorLetters().nobody(), -1);
        Due.is("26: without LETTERS", Due.told("village 1;person 1 0 0").nobody(), 0);
        Due.is("26: without PEOPLE", Due.told("village 1;letter 1").nobody(), 0);
    }

    private static void often() {
        DoorLetters x = Due.told("village 1;person 1 0 0;person 1 0 0;person 1 0 0;letter 1",
            "claim 1 if person = 2 and day < 2;claim 1 if person = 1 and day > 1 and day < 5;claim 1 if person = 0 and day > 4");
        Due.is("27: one DAY", x.often(1, 0), 2);
        Due.is("27: one DAY", x.often(1, 1), 1);
        Due.is("27: 2 and 2", x.often(4, 0), 1);
        Due.is("27: 2 and 2", x.often(4, 1), 2);
        Due.is("27: 3 and 3", x.often(8, 0), 0);
        Due.is("27: 3 and 3", x.often(8, 1), 3);
        Due.is("27: 100", x.often(100, 0), 0);
        Due.is("27: 100", x.often(100, 1), 95);
        x.day();
        x.day();
        Due.is("27: from now on", x.often(3, 0), 1);
        Due.is("27: in these", x.often(3, 1), 3);
        for (int wrong : new int[] {-1, 0, 101, Integer.MIN_VALUE, Integer.MAX_VALUE}) {
            Due.is("27: DAYS " + wrong, x.often(wrong, 0), -1);
        }
        for (int wrong : new int[] {-1, 2, Integer.MIN_VALUE, Integer.MAX_VALUE}) {
            Due.is("27: what " + wrong, x.often(1, wrong), -1);
        }
        Due.is("27: without a VILLAGE", new DoorLetters().often(1, 0), -1);
        DoorLetters y = Due.told("village 1;letter 0");
        Due.is("27: no PEOPLE", y.often(5, 0), -2);
        Due.is("27: no PEOPLE", y.often(5, 1), 0);
        DoorLetters z = Due.told("village 1;person 0 0 0;person 0 0 0;letter 1");
        Due.is("27: nobody CLAIMS", z.often(5, 0), 0);
        Due.is("27: nobody CLAIMS", z.often(5, 1), 0);
    }

    private static void start() {
        // whoever is first CLAIMS; 0 LACKS nothing of LETTER 0, 1 of none, 2 of both, 3 of both
        DoorLetters x = Due.told("village 2;person 1 0 0;person 0 0 0;person 3 0 0;person 3 0 0;letter 1;letter 2", "claim 1",
            "claim lacks", "claim 1 if seen = 3");
        Due.is("28: the least of the best", x.start(40, 0), 2);
        Due.is("28: how many", x.start(40, 1), 40);
        Due.is("28: one DAY: as it is", x.start(1, 0), 0);
        Due.is("28: one DAY", x.start(1, 1), 1);
        Due.is("28: a LETTER as often", x.start(3, 1), 3);
        x.begin(3);
        Due.is("28: of several as it is", x.start(40, 0), 3);
        x.begin(1);
        Due.is("28: not as it is", x.start(40, 0), 2);
        Due.is("28: the least of one DAY", x.start(1, 0), 0);
        x.force(1);
        Due.is("28: none LACKS nothing: as it is", x.start(7, 0), 1);
        Due.is("28: none LACKS nothing", x.start(7, 1), 0);
        x.force(2);
        // the last in the round CLAIMS: 3 if at 0, 0 if at 1, 1 if at 2, 2 if at 3
        Due.is("28: 3 CLAIMS if at 0", x.start(2, 0), 0);
        Due.is("28: 0 CLAIMS one, if at 1", x.start(1, 0), 1);
        x.force(-1);
        Due.is("28: without a RULE all fit", x.start(9, 0), 1);
        Due.is("28: without a RULE all fit", x.start(9, 1), 9);
        for (int wrong : new int[] {-1, 0, 41, Integer.MIN_VALUE, Integer.MAX_VALUE}) {
            Due.is("28: DAYS " + wrong, x.start(wrong, 0), -1);
        }
        for (int wrong : new int[] {-1, 2, Integer.MIN_VALUE, Integer.MAX_VALUE}) {
            Due.is("28: what " + wrong, x.start(1, wrong), -1);
        }
        Due.is("28: without a VILLAGE", new DoorLetters().start(1, 0), -1);
        DoorLetters y = Due.told("village 1;letter 0");
        Due.is("28: no PEOPLE", y.start(1, 0), -2);
        Due.is("28: no PEOPLE", y.start(1, 1), 0);
        Due.is("28: no LETTERS", Due.told("village 1;person 0 0 0", "claim 1").start(5, 1), 0);
    }

    private static void alike() {
        // SHAME falls from 2 to 0; then DAY by DAY the same, but for the LETTER: every third
        DoorLetters x = Due.told("village 1;person 1 4 2;letter 1;letter 0;letter 1");
        Due.is("31: the DAY", x.alike(0), 2);
        Due.is("31: how much later", x.alike(1), 3);
        x.day();
        Due.is("31: the DAY is counted from the begin", x.alike(0), 2);
        x.day();
        x.day();
        x.day();
        Due.is("31: this one the first", x.alike(0), 4);
        // HAS is not looked at, PINNED is: LETTER 1 is PINNED on DAY 1
        DoorLetters y = Due.told("village 1;person 0 0 0;letter 0;letter 1");
        Due.is("31: PINNED", y.alike(0), 2);
        Due.is("31: PINNED", y.alike(1), 2);
        // PRIDE falls by 1 a DAY
        DoorLetters z = Due.told("village 1;person 1 9 0;letter 1", "claim 0", "claim 1 if day < 50; claim 0",
            "claim 1 if day < 51; claim 0", "claim lacks + 1 if day < 60;claim 0", "claim lacks + 1 if day < 59;claim 0");
        Due.is("31: PRIDE", z.alike(0), 9);
        Due.is("31: PRIDE", z.alike(1), 1);
        // SHAME rises to 30 in 30 DAYS, then falls 1 a DAY for 30: no two alike within 60 DAYS but ...
        DoorLetters v = Due.told("village 1;person 0 9 0;letter 1", "claim 1");
        Due.is("31: SHAME", v.alike(0), 30);
        Due.is("31: SHAME", v.alike(1), 1);
        latestAlike();
        Due.is("31: without LETTERS", Due.told("village 1;person 1 1 1").alike(0), 0);
        Due.is("31: without LETTERS", Due.told("village 1;person 1 1 1").alike(1), 1);
        for (int wrong : new int[] {-1, 2, Integer.MIN_VALUE, Integer.MAX_VALUE}) {
            Due.is("31: what " + wrong, x.alike(wrong), -1);
        }
        Due.is("31: without a VILLAGE", new DoorLetters().alike(0), -1);
    }

    /** By turns 30 DAYS of SHAME for each of two PEOPLE: all DAYS unlike up to the end. */
    private static void latestAlike() {
        String two = "village 1;person 0 0 0;person 0 0 0;letter 1";
        DoorLetters x = Due.told(two, "claim 1 if person = 0 and shame < 30;claim person", "claim 1 if person = 0 and shame < 30;"
            + "claim person if day < 59;claim 0");
        Due.is("31: DAY 60 is unlike all", x.alike(0), -2);
        Due.is("31: DAY 60 is unlike all", x.alike(1), -2);
        // on DAY 59 LETTER 0 is PINNED
        x.force(1);
        Due.is("31: a later one, unlike", x.alike(0), -2);
        DoorLetters y = Due.told(two, "claim 1 if person = 0 and shame < 30;claim person if shame < 29");
        // from DAY 59 on nobody CLAIMS: PINNED at the begin of DAY 60
        Due.is("31: DAYS 59 and 60 are unlike", y.alike(0), -2);
        y.day();
        Due.is("31: 60 from now, at most", y.alike(0), 60);
        Due.is("31: 60 from now, at most", y.alike(1), 1);
        // one LETTER more makes it ten DAYS till the LETTER is the same
        DoorLetters z = Due.told("village 1" + ";letter 0".repeat(10));
        Due.is("31: the LETTER", z.alike(0), 10);
        Due.is("31: the LETTER", z.alike(1), 10);
    }

    private static void rains() {
        DoorLetters x = Due.told("village 1;person 1 0 0;letter 0");
        // each DAY the LETTER CLAIMS MATTER 0, that PERSON 0 LIVED: no difference
        Due.is("37: CLAIMED", x.rains(1, 10, 100, 0), 10);
        Due.is("37: SHAME", x.rains(1, 10, 100, 1), 0);
        DoorLetters y = Due.told("village 1;person 0 0 0;letter 0", "claim 1");
        Due.is("37: one each DAY LACKS", y.rains(1, 10, 100, 1), 10);
        Due.is("37: each from now on", y.rains(3, 10, 100, 1), 30);
        Due.is("37: over all times", y.rains(3, 10, 100, 0), 30);
        Due.is("37: no rain", y.rains(3, 10, 0, 1), 0);
        Due.is("37: the most", y.rains(10, 60, 100, 1), 300);
        Due.is("37: the most", y.rains(10, 60, 100, 0), 600);
        Due.is("37: x as it was", y.count(12), 0);
        draws();
        for (int wrong : new int[] {-1, 0, 11, Integer.MIN_VALUE, Integer.MAX_VALUE}) {
            Due.is("37: times " + wrong, x.rains(wrong, 1, 0, 0), -1);
        }
        for (int wrong : new int[] {-1, 0, 61, Integer.MIN_VALUE, Integer.MAX_VALUE}) {
            Due.is("37: DAYS " + wrong, x.rains(1, wrong, 0, 0), -1);
        }
        for (int wrong : new int[] {-1, 101, Integer.MIN_VALUE, Integer.MAX_VALUE}) {
            Due.is("37: p " + wrong, x.rains(1, 1, wrong, 0), -1);
        }
        for (int wrong : new int[] {-1, 2, Integer.MIN_VALUE, Integer.MAX_VALUE}) {
            Due.is("37: what " + wrong, x.rains(1, 1, 0, wrong), -1);
        }
        Due.is("37: without a VILLAGE", new DoorLetters().rains(1, 1, 0, 0), -1);
        Due.is("37: without LETTERS", Due.told("village 1;person 0 0 7").rains(2, 5, 50, 1), 14);
    }

    /**
     * From x = 1 it becomes 1103527590 (a DRAW of 16838), 377401575 (5758), 662824084 (10113), 1147902781 (17515),
     * 2035015474 (31051), 368800899 (5627), 1508029952 (23010), 486256185 (7419): the best known of all draws.
     */
    private static void draws() {
        DoorLetters x = Due.told("village 8;person 1 0 0;letter 0", "claim lacks");
        x.seed(1);
        // 38 is not below 38: no rain; a second DAY: 58
        Due.is("37: not below p", x.rains(1, 1, 38, 0), 0);
        // 38 is below 39: MATTER 5758 mod 8, 6
        Due.is("37: below p", x.rains(1, 1, 39, 0), 1);
        // then 13 is below 39, MATTER 17515 mod 8, 3; then 51 is not; then 27 is: MATTER 23010 mod 8, 2
        Due.is("37: four DAYS", x.rains(1, 4, 39, 0), 3);
        // of LETTERS by turns, x goes on: with one DAY each they are the same
        Due.is("37: x goes on", x.rains(4, 1, 39, 0), 3);
        Due.is("37: x goes on", x.rains(4, 1, 39, 1), 3);
        x.live(0, 6);
        Due.is("37: LIVED", x.rains(1, 4, 39, 0), 2);
        x.live(0, 3);
        Due.is("37: LIVED", x.rains(1, 4, 39, 0), 1);
        x.live(0, 2);
        Due.is("37: LIVED", x.rains(1, 4, 39, 0), 0);
        // or, if it did, does not
        DoorLetters y = Due.told("village 8;person 0 0 0;letter 64", "claim lacks");
        y.seed(1);
        Due.is("37: does not", y.rains(1, 1, 39, 0), 0);
        Due.is("37: on this DAY", y.rains(1, 2, 39, 0), 1);
        // 64 and 8: two are LACKED
        Due.is("37: on this DAY", y.rains(1, 2, 39, 1), 2);
        Due.is("37: x as it was", y.count(12), 1);
    }

    private static void nothingChanges() {
        DoorLetters x = Due.told("village 2;person 1 5 5;person 3 5 5;letter 3;letter 2", "claim 1 if person = 1 and day > 0");
        x.day();
        x.ahead(0, 100, 0);
        x.first(0);
        x.nobody();
        x.often(100, 0);
        x.start(40, 0);
        x.alike(0);
        x.rains(10, 60, 50, 0);
        int[] due = {2, 2, 2, 1, 0, 1, 0, 1, 0, 10, 0, 1, 0, 0};
        for (int what = 0; what < due.length; what++) {
            Due.is("by what is asked nothing changes: " + what, x.count(what), due[what]);
        }
        Due.is("by what is asked nothing changes", x.person(1, 1), 4);
    }
}
