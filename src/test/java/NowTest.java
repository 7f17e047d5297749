/** Promises 15 to 23 and 32: what is asked AS ALL IS NOW. */
public final class NowTest {
    private static final int[] WRONG = {-1, 32, Integer.MIN_VALUE, Integer.MAX_VALUE};

    public static void main(String[] args) {
        fits();
        whose();
        ask();
        know();
        pairs();
        best();
        way();
        join();
        rests();
        restsOfAllKinds();
        pence();
        Due.end("NowTest");
    }

    private static void fits() {
        DoorLetters x = Due.told("village 8;person 15 0 0;person 240 0 0;letter 7;letter 255;letter 0");
        int[][] due = {{3, 0, 1}, {4, 4, 0}, {0, 0, 4}, {0, 3, 4}, {4, 4, 0}, {0, 0, 4}};
        for (int p = 0; p < 2; p++) {
            for (int l = 0; l < 3; l++) {
                for (int what = 0; what < 3; what++) {
                    Due.is("15: " + p + " " + l + " " + what, x.fits(p, l, what), due[3 * p + l][what]);
                }
            }
        }
        x.live(1, 0);
        Due.is("15: as all is now", x.fits(1, 0, 0), 1);
        Due.is("15: what", x.fits(0, 0, 3), -1);
        Due.is("15: PERSON", x.fits(2, 0, 0), -1);
        Due.is("15: LETTER", x.fits(0, 3, 0), -1);
        for (int wrong : WRONG) {
            Due.is("15: what " + wrong, x.fits(0, 0, wrong), -1);
            Due.is("15: PERSON " + wrong, x.fits(wrong, 0, 0), -1);
            Due.is("15: LETTER " + wrong, x.fits(0, wrong, 0), -1);
        }
    }

    private static void whose() {
        DoorLetters x = Due.told("village 4;person 15 0 0;person 3 0 0;person 7 0 0;person 3 0 0;letter 3;letter 8;letter 12;letter 4");
        Due.is("16: who LACK nothing", x.whose(0, 0), 15);
        Due.is("16: least BEYOND, then the least", x.whose(0, 1), 1);
        Due.is("16: one", x.whose(1, 0), 1);
        Due.is("16: one", x.whose(1, 1), 0);
        Due.is("16: two", x.whose(3, 0), 5);
        Due.is("16: LACKS ahead of BEYOND", x.whose(2, 1), 0);
        Due.is("16: least BEYOND", x.whose(3, 1), 2);
        x.live(0, 3);
        Due.is("16: as all is now", x.whose(1, 0), 0);
        Due.is("16: none LACKS nothing", x.whose(1, 1), 1);
        Due.is("16: none LACKS nothing", x.whose(2, 1), 0);
        Due.is("16: far BEYOND is nearer than one LACKED",
            Due.told("village 8;person 0 0 0;person 255 0 0;letter 1").whose(0, 1), 1);
        for (int wrong : WRONG) {
            Due.is("16: LETTER " + wrong, x.whose(wrong, 0), -1);
            Due.is("16: what " + wrong, x.whose(0, wrong), -1);
        }
        Due.is("16: what 2", x.whose(0, 2), -1);
        Due.is("16: LETTER 4", x.whose(4, 0), -1);
        DoorLetters y = Due.told("village 4;letter 1");
        Due.is("16: no PEOPLE", y.whose(0, 0), 0);
        Due.is("16: no PEOPLE", y.whose(0, 1), -2);
    }

    private static void ask() {
        // MATTER 0 tells one of four alone, MATTERS 1 and 2 tell two by two
        DoorLetters x = Due.told("village 4;person 1 0 0;person 2 0 0;person 4 0 0;person 6 0 0;person 14 0 0");
        Due.is("17: two and two", x.ask(15, 0), 2);
        Due.is("17: not by MATTER 0", x.ask(15, 1), 1);
        Due.is("17: five", x.ask(31, 0), 3);
        Due.is("17: two and three", x.ask(31, 1), 1);
        Due.is("17: two of them", x.ask(24, 0), 1);
        Due.is("17: only MATTER 3", x.ask(24, 1), 3);
        Due.is("17: one", x.ask(4, 0), 0);
        Due.is("17: one", x.ask(4, 1), -1);
        Due.is("17: none", x.ask(0, 0), -3);
        Due.is("17: a sixth", x.ask(32, 0), -3);
        Due.is("17: a sixth", x.ask(33, 1), -3);
        Due.is("17: what", x.ask(3, 2), -3);
        Due.is("17: what", x.ask(3, -1), -3);
        x.live(4, 3);
        Due.is("17: alike now", x.ask(31, 0), -2);
        Due.is("17: alike now", x.ask(24, 1), -2);
        Due.is("17: what, though alike", x.ask(24, 2), -3);
        Due.is("17: others are not", x.ask(15, 0), 2);
        for (int wrong : WRONG) {
            Due.is("17: a set " + wrong, x.ask(wrong, 0), -3);
        }
        DoorLetters w = Due.told("village 2;person 0 0 0;person 1 0 0;person 2 0 0;person 3 0 0");
        Due.is("17: MATTER 0 as the second", w.ask(15, 0), 2);
        Due.is("17: either could begin", w.ask(15, 1), 0);
        // one question each, whatever is answered
        DoorLetters y = Due.told("village 7;person 1 0 0;person 2 0 0;person 4 0 0;person 8 0 0;person 16 0 0;person 32 0 0;person 64 0 0");
        Due.is("17: one by one", y.ask(127, 0), 6);
        Due.is("17: one by one", y.ask(127, 1), 0);
        Due.is("17: one by one", y.ask(126, 1), 1);
        // by what was answered so far: eight MATTERS, but three questions tell all seven
        DoorLetters z = Due.told("village 8;person 1 0 0;person 3 0 0;person 5 0 0;person 128 0 0;person 136 0 0;person 144 0 0;person 152 0 0");
        Due.is("17: each by what was answered", z.ask(127, 0), 3);
        Due.is("17: each by what was answered", z.ask(127, 1), 0);
        Due.is("17: without a VILLAGE", new DoorLetters().ask(1, 0), -3);
    }

    private static void know() {
        DoorLetters x = Due.told("village 4;person 1 0 0;person 2 0 0;person 4 0 0;person 8 0 0");
        Due.is("18: three of four", x.know(0), 3);
        Due.is("18: the least", x.know(1), 7);
        x.live(0, 0);
        x.live(0, 1);
        Due.is("18: two alike are not told apart", x.know(0), 2);
        Due.is("18: the least", x.know(1), 6);
        x.live(2, 2);
        x.live(2, 1);
        x.live(3, 3);
        x.live(3, 1);
        Due.is("18: all alike", x.know(0), 0);
        Due.is("18: all alike", x.know(1), 0);
        Due.is("18: two sets of one", Due.told("village 8;person 0 0 0;person 160 0 0").know(1), 32);
        Due.is("18: fewer, though higher",
            Due.told("village 3;person 0 0 0;person 5 0 0;person 6 0 0").know(1), 3);
        Due.is("18: fewer, though higher", Due.told("village 3;person 3 0 0;person 4 0 0;person 4 0 0;person 7 0 0").know(0), 2);
        Due.is("18: one of the highest", Due.told("village 8;person 127 0 0;person 255 0 0").know(1), 128);
        for (int wrong : new int[] {-1, 2, Integer.MIN_VALUE, Integer.MAX_VALUE}) {
            Due.is("18: what " + wrong, x.know(wrong), -1);
        }
        Due.is("18: without a VILLAGE", new DoorLetters().know(1), -1);
        Due.is("18: without PEOPLE", Due.told("village 5").know(0), 0);
    }

    private static void pairs() {
        // PERSON 0 could have either, PERSON 1 only LETTER 0
        DoorLetters x = Due.told("village 3;person 7 0 0;person 1 0 0;person 0 0 0;letter 1;letter 3;letter 1");
        Due.is("19: most", x.pairs(-1), 2);
        Due.is("19: PERSON 0 first", x.pairs(0), 0);
        Due.is("19: then the least left", x.pairs(1), 2);
        Due.is("19: none", x.pairs(2), -1);
        DoorLetters y = Due.told("village 3;person 7 0 0;person 1 0 0;person 3 0 0;letter 1;letter 2;letter 7");
        Due.is("19: most", y.pairs(-1), 3);
        Due.is("19: most ahead of first", y.pairs(0), 2);
        Due.is("19: most ahead of first", y.pairs(1), 0);
        Due.is("19: most ahead of first", y.pairs(2), 1);
        y.live(2, 1);
        Due.is("19: as all is now", y.pairs(-1), 2);
        Due.is("19: PERSON 0 the least LETTER", y.pairs(0), 1);
        Due.is("19: none behind all", y.pairs(1), 0);
        Due.is("19: none behind all", y.pairs(2), -1);
        for (int wrong : new int[] {-2, 3, Integer.MIN_VALUE, Integer.MAX_VALUE}) {
            Due.is("19: what " + wrong, y.pairs(wrong), -2);
        }
        DoorLetters z = Due.told("village 1" + ";person 1 0 0".repeat(7) + ";letter 1".repeat(10));
        Due.is("19: all", z.pairs(-1), 7);
        for (int p = 0; p < 7; p++) {
            Due.is("19: each", z.pairs(p), p);
        }
        Due.is("19: without a VILLAGE", new DoorLetters().pairs(-1), -2);
        Due.is("19: without PEOPLE", Due.told("village 1;letter 0").pairs(-1), 0);
        Due.is("19: without PEOPLE", Due.told("village 1;letter 0").pairs(0), -2);
        Due.is("19: without LETTERS", Due.told("village 1;person 0 0 0").pairs(0), -1);
    }

    private static void best() {
        Due.is("20: without a VILLAGE", new DoorLetters().best(), -1);
        Due.is("20: nothing is given", Due.told("village 3;person 1 0 0;letter 6").best(), 0);
        Due.is("20: one", Due.told("village 3;person 1 0 0;letter 1").best(), 1);
        Due.is("20: LACKS are taken off", Due.told("village 3;person 3 0 0;letter 7").best(), 1);
        // 0 has 3 of LETTER 0, 2 of LETTER 1; 1 has 2 of LETTER 0 less 1, none of LETTER 1 less 2
        DoorLetters x = Due.told("village 5;person 31 0 0;person 3 0 0;letter 7;letter 24");
        Due.is("20: not the greediest", x.best(), 3);
        x.live(1, 2);
        Due.is("20: as all is now", x.best(), 5);
        DoorLetters y = Due.told("village 8" + ";person 255 0 0".repeat(7) + ";letter 1;letter 3;letter 7;letter 15;letter 31;letter 63;letter 127;letter 255;letter 0;letter 0");
        Due.is("20: seven of ten", y.best(), 2 + 3 + 4 + 5 + 6 + 7 + 8);
        Due.is("20: one to each", Due.told("village 8;person 255 0 0;letter 255;letter 255").best(), 8);
        Due.is("20: no LETTER twice", Due.told("village 8;person 255 0 0;person 255 0 0;letter 255").best(), 8);
    }

    private static void way() {
        String four = "village 2;person 1 3 0;person 1 2 0;person 3 1 0;person 1 0 0;letter 1;letter 2";
        DoorLetters x = Due.told(four, "claim 1 if seen = 2 and pride < 2", "claim 1 if seen = 2 and pride > 1", "claim 0",
            "claim 1 if seen = 3 and person = 3", "claim seen - day if letter = 1", "claim 1 if seen = 4");
        Due.is("21: which could be third", x.way(0, 0), 3);
        Due.is("21: 0, 1, then 2", x.way(0, 1), 2);
        x.force(1);
        Due.is("21: only 0 or 1 as the third", x.way(0, 0), 3);
        Due.is("21: 0, 2, then 1", x.way(0, 1), 1);
        x.force(2);
        Due.is("21: by no order", x.way(0, 0), -2);
        Due.is("21: by no order", x.way(0, 1), -2);
        x.force(3);
        Due.is("21: the last of all", x.way(0, 0), 4);
        Due.is("21: the last of all", x.way(0, 1), 3);
        x.force(4);
        Due.is("21: of the LETTER asked for, on this DAY", x.way(1, 0), 2);
        Due.is("21: 0, then 1", x.way(1, 1), 1);
        Due.is("21: PRIDE is as it was", x.person(2, 1), 1);
        Due.is("21: none PINNED", x.letter(1, 1), 0);
        x.day();
        Due.is("21: on this DAY", x.way(1, 0), 3);
        Due.is("21: of the LETTER asked for", x.way(0, 0), -2);
        x.force(5);
        Due.is("21: there are only 4", x.way(0, 0), -2);
        x.force(-1);
        Due.is("21: without a RULE", x.way(1, 0), 1);
        Due.is("21: without a RULE", x.way(1, 1), 2);
        x.begin(3);
        Due.is("21: wherever rounds BEGIN", x.way(0, 1), 0);
        for (int wrong : WRONG) {
            Due.is("21: LETTER " + wrong, x.way(wrong, 0), -1);
            Due.is("21: what " + wrong, x.way(0, wrong), -1);
        }
        Due.is("21: LETTER 2", x.way(2, 0), -1);
        Due.is("21: what 2", x.way(0, 2), -1);
        Due.is("21: without PEOPLE", Due.told("village 1;letter 0").way(0, 0), -2);
    }

    private static void join() {
        DoorLetters x = Due.told("village 4;letter 1;letter 2;letter 4;letter 3;letter 6;letter 0;letter 5", "claim 0");
        Due.is("22: none PINNED", x.join(3, 0), -2);
        for (int i = 0; i < 3; i++) {
            x.day();
        }
        Due.is("22: three", x.join(7, 0), 3);
        Due.is("22: three", x.join(7, 1), 7);
        Due.is("22: two", x.join(6, 1), 6);
        Due.is("22: one at least", x.join(0, 0), -2);
        for (int i = 0; i < 4; i++) {
            x.day();
        }
        Due.is("22: two of seven", x.join(7, 0), 2);
        Due.is("22: the least as bits", x.join(7, 1), 12);
        Due.is("22: one", x.join(3, 0), 1);
        Due.is("22: one", x.join(3, 1), 8);
        Due.is("22: nothing CLAIMED", x.join(0, 0), 1);
        Due.is("22: nothing CLAIMED", x.join(0, 1), 32);
        Due.is("22: just that set", x.join(8, 0), -2);
        Due.is("22: the most", x.join(15, 1), -2);
        Due.is("22: not of 4 MATTERS", x.join(16, 0), -1);
        for (int wrong : WRONG) {
            Due.is("22: a set " + wrong, x.join(wrong, 0), -1);
            Due.is("22: what " + wrong, x.join(0, wrong), -1);
        }
        Due.is("22: what 2", x.join(0, 2), -1);
        Due.is("22: without a VILLAGE", new DoorLetters().join(0, 0), -1);
    }

    private static void rests() {
        // PERSON 0: FITS 2, LACKS 1, PRIDE 0; PERSON 1: FITS 3, PRIDE 2
        DoorLetters x = Due.told("village 3;person 3 0 4;person 7 2 0;person 3 5 1;letter 7;letter 0");
        // 1 CLAIMS whatever 0 does, so 0 lets it by
        Due.is("23: how many", x.rests(0, 1, 0, 0), 1);
        Due.is("23: the first one", x.rests(0, 1, 0, 1), 0);
        Due.is("23: the other one", x.rests(0, 1, 0, 2), 1);
        Due.is("23: turned", x.rests(1, 0, 0, 1), 1);
        Due.is("23: turned", x.rests(1, 0, 0, 2), 0);
        // of like ones the lesser number
        Due.is("23: like ones", x.rests(2, 0, 0, 1), 0);
        Due.is("23: like ones", x.rests(2, 0, 0, 2), 1);
        for (int wrong : WRONG) {
            Due.is("23: one " + wrong, x.rests(wrong, 1, 0, 0), -1);
            Due.is("23: other " + wrong, x.rests(0, wrong, 0, 0), -1);
            Due.is("23: LETTER " + wrong, x.rests(0, 1, wrong, 0), -1);
            Due.is("23: what " + wrong, x.rests(0, 1, 0, wrong), -1);
        }
        Due.is("23: one and the same", x.rests(1, 1, 0, 0), -1);
        Due.is("23: what 3", x.rests(0, 1, 0, 3), -1);
        Due.is("23: PERSON 3", x.rests(0, 3, 0, 0), -1);
        Due.is("23: LETTER 2", x.rests(0, 1, 2, 0), -1);
        // LETTER 1 CLAIMS nothing: both have 0 together, the lesser; alone their PRIDE
        Due.is("23: PRIDE 0: to CLAIM is no more", x.rests(0, 1, 1, 0), 2);
        Due.is("23: the first", x.rests(0, 1, 1, 1), 0);
        Due.is("23: the first", x.rests(0, 1, 1, 2), 1);
        Due.is("23: turned, the first is by one", x.rests(1, 0, 1, 1), 0);
        Due.is("23: turned, the first is by one", x.rests(1, 0, 1, 2), 1);
    }

    private static void restsOfAllKinds() {
        // alone: LACKS 2 of 2, and PRIDE 2 more: 0, as if let by; together below 0
        DoorLetters x = Due.told("village 2;person 0 2 0;person 0 2 0;letter 3");
        Due.is("23: three", x.rests(0, 1, 0, 0), 3);
        Due.is("23: both let it by", x.rests(0, 1, 0, 1) * 10 + x.rests(0, 1, 0, 2), 0);
        // alone 1, together -2 and -1: who is alone CLAIMS it
        DoorLetters y = Due.told("village 2;person 0 3 0;person 0 3 0;letter 3");
        Due.is("23: two", y.rests(0, 1, 0, 0), 2);
        Due.is("23: 0 lets it by, 1 CLAIMS", y.rests(0, 1, 0, 1) * 10 + y.rests(0, 1, 0, 2), 1);
        // together 0 has -1 to -1 of 1: both CLAIM only if neither has less by that
        DoorLetters z = Due.told("village 2;person 1 0 0;person 0 1 0;letter 3");
        // 0 has 0 alone and together; 1 has -1 alone, -1 together: lets it by; 0 either way
        Due.is("23: two", z.rests(0, 1, 0, 0), 2);
        Due.is("23: the first", z.rests(0, 1, 0, 1) * 10 + z.rests(0, 1, 0, 2), 0);
        // SHAME counts where both CLAIM
        DoorLetters v = Due.told("village 1;person 0 2 0;person 0 0 9;letter 1");
        // 0: alone 1, together -1; 1: alone -1, together -10
        Due.is("23: one", v.rests(0, 1, 0, 0), 1);
        Due.is("23: 0 alone", v.rests(0, 1, 0, 1) * 10 + v.rests(0, 1, 0, 2), 10);
        v.hush(1);
        v.live(1, 0);
        // now 1 LACKS nothing: has 1; 0 then has -1
        Due.is("23: as all is now", v.rests(0, 1, 0, 1) * 10 + v.rests(0, 1, 0, 2), 1);
    }

    private static void pence() {
        DoorLetters x = Due.told("village 1;person 1 0 0;person 1 0 0;person 1 0 0;letter 1", "claim 0");
        Due.is("32: nobody HAS any", x.pence(9999, 0), 0);
        x.day();
        x.give(0, 1);
        Due.is("32: all to one", x.pence(9999, 1), 9999);
        Due.is("32: nothing to others", x.pence(9999, 0), 0);
        x.undo();
        int[] gifts = {0, 1, 1, 2, 2, 2};
        for (int person : gifts) {
            x.day();
            x.give(0, person);
        }
        // of 6: 1, 2 and 3
        int[][] due = {{0, 0, 0, 0}, {1, 0, 0, 1}, {2, 0, 1, 1}, {3, 1, 1, 1}, {4, 1, 1, 2}, {5, 1, 2, 2}, {6, 1, 2, 3},
            {7, 1, 2, 4}, {10, 2, 3, 5}, {9999, 1667, 3333, 4999}};
        for (int[] row : due) {
            for (int p = 0; p < 3; p++) {
                Due.is("32: " + row[0] + " " + p, x.pence(row[0], p), row[p + 1]);
            }
        }
        for (int wrong : new int[] {-1, 10000, Integer.MIN_VALUE, Integer.MAX_VALUE}) {
            Due.is("32: much " + wrong, x.pence(wrong, 0), -1);
            Due.is("32: PERSON " + wrong, x.pence(1, wrong), -1);
        }
        Due.is("32: PERSON 3", x.pence(1, 3), -1);
        Due.is("32: without a VILLAGE", new DoorLetters().pence(0, 0), -1);
    }
}
