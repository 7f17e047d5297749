/** Sentence by sentence, the edges that the document names of RULES, told and forced: promises 5 and 6. */
public final class EdgesOfRulesTest {
    public static void main(String[] args) {
        tapeIsARule();
        faultIsTold();
        thereAreSix();
        ruleIsInForce();
        noneIsInForce();
        noSuchRule();
        ruleOf400Bytes();
        clausesAreTwelve();
        testMayBeLeftOut();
        partsAndFactsAreSome();
        factIsOneOfThree();
        numberHas1To5Digits();
        numberGoesOn();
        wordGoesOn();
        wordsTheLeast();
        wordsTheMost();
        signsAtTheirEdges();
        divisionIsTowards0();
        bothAre0By0();
        allGoesRound();
        blanksAsOneLikes();
        tenDeep();
        sixtyTogether();
        faultIsTheFirst();
        faultOfAByte();
        faultAtTheEnd();
        faultOfANumber();
        faultTooDeep();
        faultOneTooMany();
        faultOfAClause();
        faultIsTheLeast();
        Due.end("EdgesOfRulesTest");
    }

    // ---- promise 5

    private static void tapeIsARule() {
        Due.sentence("5", "The TAPE, which is empty then, is a RULE: its number");
        DoorLetters x = new DoorLetters();
        for (int number = 0; number <= 5; number++) {
            Due.is("without a VILLAGE", Due.rule(x, "claim " + number), number);
            Due.is("the TAPE", x.count(13), 0);
            Due.is("RULES", x.count(3), number + 1);
        }
        Due.is("none IN FORCE by that", x.count(4), -1);
    }

    private static void faultIsTold() {
        Due.sentence("5", "-2 - its FAULT");
        DoorLetters x = Due.told("village 1", "claim 1");
        Due.is("the least", Due.rule(x, ""), -3);
        Due.tape(x, " ".repeat(400));
        Due.is("the last place", x.rule(), -2 - (1 + 8 * 400));
        Due.is("the TAPE", x.count(13), 0);
        Due.is("RULES", x.count(3), 1);
        // what a text with a FAULT left open isn't open in the next one
        String deep = "claim 1 if " + "not [".repeat(5) + "1 = 1";
        Due.is("ten deep", Due.rule(x, deep), -2 - (1 + 8 * 41));
        Due.is("sixty-one", Due.rule(x, "claim 1" + "+1".repeat(60)), -2 - (1 + 8 * 126 + 3));
        Due.is("thirteen", Due.rule(x, "claim 1;".repeat(13)), -2 - (1 + 8 * 96 + 4));
        Due.is("the next number", Due.rule(x, deep + "]".repeat(5)), 1);
        Due.is("after a [", Due.rule(x, "claim 1 if [1 = 1"), -2 - (1 + 8 * 17));
        Due.is("no ] is due", Due.rule(x, "claim 1 if 1 = 1]"), -2 - (1 + 8 * 16));
        Due.is("the next number", Due.rule(x, "claim 1" + "+1".repeat(59)), 2);
        Due.is("the next number", Due.rule(x, "claim 1;".repeat(11) + "claim 1"), 3);
    }

    private static void thereAreSix() {
        Due.sentence("5", "NONE, and nothing happens: there are 6.");
        DoorLetters x = Due.told("village 1;person 1 0 0;letter 1", "claim 1", "claim 1", "claim 1", "claim 1", "claim 1");
        Due.is("the sixth", Due.rule(x, "claim 0"), 5);
        Due.is("a seventh", Due.rule(x, "claim 1"), -1);
        Due.is("the TAPE", x.count(13), 7);
        Due.is("RULES", x.count(3), 6);
        Due.is("the RULE IN FORCE", x.force(5), 0);
        Due.is("the sixth as it was", x.day(), -2);
        Due.is("a seventh", x.force(6), -2);
        Due.village(x, "village 1");
        Due.is("in another VILLAGE", Due.rule(x, "claim 1"), -1);
    }

    // ---- promise 6

    private static void ruleIsInForce() {
        Due.sentence("6", "A RULE is IN FORCE (NONE: none): which was");
        DoorLetters x = new DoorLetters();
        for (int i = 0; i < 6; i++) {
            Due.rule(x, "claim " + i);
        }
        Due.is("the last", x.force(5), -1);
        Due.is("the first", x.force(0), 5);
        Due.is("the same", x.force(0), 0);
        Due.is("it is IN FORCE", x.count(4), 0);
    }

    private static void noneIsInForce() {
        Due.sentence("6", "(NONE: none)");
        DoorLetters x = new DoorLetters();
        Due.is("without RULES", x.force(-1), -1);
        Due.village(x, "village 2;person 1 0 0;letter 3");
        Due.rule(x, "claim 1");
        x.force(0);
        Due.is("by the RULE", x.day(), 0);
        Due.is("none", x.force(-1), 0);
        Due.is("without a RULE", x.day(), -2);
        Due.is("none again", x.force(-1), -1);
    }

    private static void noSuchRule() {
        Due.sentence("6", "-2, and nothing happens, if there is none such");
        DoorLetters x = new DoorLetters();
        Due.is("without RULES", x.force(0), -2);
        Due.rule(x, "claim 1");
        Due.rule(x, "claim 2");
        x.force(1);
        for (int wrong : new int[] {-2, 2, 5, 6, Integer.MIN_VALUE, Integer.MAX_VALUE}) {
            Due.is("RULE " + wrong + " of two", x.force(wrong), -2);
        }
        Due.is("nothing happens", x.count(4), 1);
    }

    // ---- Terms: RULES

    private static void ruleOf400Bytes() {
        Due.sentence("5", "RULES 0 to 5: texts likewise");
        Due.ruleStands("claim 1" + " ".repeat(393));
        Due.ruleStands(" ".repeat(393) + "claim 1");
        // all of it is read: its last sign makes it 2
        String text = "claim 1 if person = 1" + "*1".repeat(50) + ";claim 0 + 0 *";
        text = text + " ".repeat(399 - text.length()) + "2";
        Due.is("bytes", text.length(), 400);
        Due.is("400 bytes", Due.told("village 1;person 1 0 0;person 1 0 0;letter 1", text).day(), 1);
        Due.ruleFault("claim 1" + " ".repeat(392) + "+|", 0);
    }

    private static void clausesAreTwelve() {
        Due.sentence("5", "12 CLAUSES at most");
        Due.ruleStands("claim 1");
        Due.ruleStands("claim 1;".repeat(11) + "claim 1");
        Due.ruleFault("claim 1;".repeat(12) + "|claim 1", 4);
        Due.is("the twelfth", Due.told("village 1;person 0 0 0;letter 1", "claim 1 if 1=2;".repeat(11) + "claim 1").day(), 0);
    }

    /** Who CLAIMS a LETTER that three PEOPLE have LIVED. */
    private static int claimed(String rule) {
        return Due.told("village 1;person 1 0 0;person 1 0 0;person 1 0 0;letter 1", rule).day();
    }

    private static void testMayBeLeftOut() {
        Due.sentence("5", "claim SUM [ if TEST ]");
        Due.is("without a TEST", claimed("claim 1"), 0);
        Due.is("with a TEST", claimed("claim 1 if person = 2"), 2);
        Due.is("a SUM with a TEST", claimed("claim person*2-1 if person = 0 or person = 1"), 1);
        Due.ruleFault("claim 1 if|", 0);
        Due.ruleFault("claim|", 0);
        Due.ruleFault("claim |if 1 = 1", 0);
    }

    private static void partsAndFactsAreSome() {
        Due.sentence("5", "TEST: PART { or PART }. PART: FACT { and FACT }.");
        Due.is("and before or", claimed("claim 1 if 1=1 or 1=1 and 1=2"), 0);
        Due.is("and before or", claimed("claim 1 if 1=2 and 1=1 or person = 1"), 1);
        Due.is("many", claimed("claim 1 if 1=2" + " or 1=2".repeat(17) + " or person=2"), 2);
        Due.is("many", claimed("claim 1 if 1=1" + " and 1=1".repeat(17) + " and person=2"), 2);
        Due.ruleFault("claim 1 if 1=1 or|", 0);
        Due.ruleFault("claim 1 if 1=1 and |or 1=1", 0);
    }

    private static void factIsOneOfThree() {
        Due.sentence("5", "FACT: not FACT | [ TEST ] (these brackets are signs) | SUM SIGN SUM");
        Due.is("not", claimed("claim 1 if not person = 0"), 1);
        Due.is("not of one FACT", claimed("claim 1 if not 1=1 or person = 1"), 1);
        Due.is("not of a TEST", claimed("claim 1 if not [person = 0 or person = 1]"), 2);
        Due.ruleFault("claim 1 if not|", 0);
        Due.ruleFault("claim 1 if [|]", 0);
        Due.ruleFault("claim 1 if [1=1|", 0);
        Due.ruleFault("claim 1 if 1=1|]", 0);
        Due.ruleFault("claim 1 if 1|", 0);
        Due.ruleFault("claim 1 if 1=|", 0);
        Due.ruleFault("claim 1 if 1=1|=1", 0);
        Due.ruleFault("claim |[1]", 0);
    }

    private static void numberHas1To5Digits() {
        Due.sentence("5", "NUMBER (1 to 5 digits");
        Due.ruleStands("claim 0");
        Due.ruleStands("claim 00000");
        so("99999 = 50000*2-1");
        so("00007 = 7");
        Due.ruleFault("claim |000000", 1);
        Due.ruleFault("claim |100000", 1);
        Due.ruleFault("claim 1+|123456+1", 1);
    }

    private static void numberGoesOn() {
        Due.sentence("5", "as far as digits go on) | WORD.");
        Due.ruleFault("claim 12|fits", 0);
        Due.ruleFault("claim 1 |2", 0);
        Due.ruleFault("claim 1|.5", 0);
        Due.ruleFault("claim |" + "9".repeat(394), 1);
        Due.ruleStands("claim 1if 2=2and 3=3or 4=4");
    }

    private static void wordGoesOn() {
        Due.sentence("5", "WORDS (small letters, as far as these go on)");
        Due.ruleFault("claim |fitsx", 0);
        Due.ruleFault("claim |fit", 0);
        Due.ruleFault("claim |fitslacks", 0);
        Due.ruleFault("claim |fitsz", 0);
        Due.ruleFault("claim |afits", 0);
        Due.ruleFault("claim |hits", 0);
        Due.ruleFault("claim |fitz", 0);
        Due.ruleFault("claim fits|2", 0);
        Due.ruleFault("claim fits|S", 0);
        Due.ruleFault("claim |Fits", 0);
        Due.ruleFault("claim fits|`", 0);
        Due.ruleFault("claim fits|{", 0);
        Due.ruleFault("|claimfits", 0);
        Due.ruleFault("claim fits |iffits = 1", 0);
        Due.ruleStands("claim1if1=1");
    }

    /** Whether PERSON 0, of whom nothing is above 0, has this on DAY 0. */
    private static void least(String test) {
        Due.is(test, Due.told("village 8;person 0 0 0;letter 0", "claim 1 if " + test).day(), 0);
    }

    private static void wordsTheLeast() {
        Due.sentence("5", "of a PERSON who reads a LETTER: person, fits (how many MATTERS it CLAIMS that they LIVED)");
        for (String word : new String[] {"person", "fits", "lacks", "beyond", "pride", "shame", "seen", "has", "letter", "day"}) {
            least(word + " = 0");
        }
    }

    /** Whether this holds on DAY 9, when PERSON 6 is the last one to read LETTER 9. */
    private static void most(String lived, String claims, String test) {
        DoorLetters x = Due.told("village 8" + ";person 0 0 0".repeat(6) + ";person " + lived + " 9 9"
            + ";letter 255".repeat(9) + ";letter " + claims, "claim 1 if person = 6 and day < 3",
                "claim 1 if person = 6 and " + test);
        for (int i = 0; i < 9; i++) {
            x.day();
        }
        x.force(1);
        Due.is(test, x.day(), 6);
    }

    private static void wordsTheMost() {
        Due.sentence("5", "seen (how many read it ahead of them), has (how many they HAVE), letter (its number), day");
        most("255", "255", "person = 6");
        most("255", "255", "fits = 8");
        most("0", "255", "lacks = 8");
        most("255", "0", "beyond = 8");
        most("0", "255", "pride = 9");
        most("0", "255", "shame = 30");
        most("0", "255", "seen = 6");
        most("0", "255", "has = 3");
        most("0", "255", "letter = 9");
        most("0", "255", "day = 9");
        // LACKS nothing: on six DAYS let by
        most("255", "0", "pride = 3");
        most("254", "0", "shame = 12");
    }

    private static void so(String test) {
        Due.is("so: " + test, claimed("claim 1 if " + test), 0);
    }

    private static void notSo(String test) {
        Due.is("not so: " + test, claimed("claim 1 if " + test), -2);
    }

    private static void signsAtTheirEdges() {
        Due.sentence("5", "SIGN one of < <= = >= >");
        so("1 < 2");
        notSo("2 < 2");
        so("2 <= 2");
        notSo("3 <= 2");
        so("2 = 2");
        notSo("1 = 2");
        notSo("3 = 2");
        so("2 >= 2");
        notSo("1 >= 2");
        so("3 > 2");
        notSo("2 > 2");
        so("0-1 < 0");
        notSo("0-1 > 0");
        // what holds is joined like any other
        for (String holds : new String[] {"1 < 2", "2 <= 2", "2 = 2", "2 >= 2", "3 > 2"}) {
            so(holds + " and 1 = 1");
            so("1 = 1 and " + holds);
            notSo("not " + holds);
        }
        Due.ruleFault("claim 1 if 1 =|< 1", 0);
        Due.ruleFault("claim 1 if 1 =|= 1", 0);
        Due.ruleFault("claim 1 if 1 <=|= 1", 0);
        Due.ruleFault("claim 1 if 1 +|= 1", 0);
        Due.ruleFault("claim 1 if 1 <|> 1", 0);
        Due.ruleFault("claim 1 if 1 < |= 1", 0);
        Due.ruleFault("claim 1 if 1 |! 1", 0);
    }

    private static void divisionIsTowards0() {
        Due.sentence("5", "/ is towards 0, % its rest");
        so("7/2 = 3");
        so("7%2 = 1");
        so("1/2 = 0");
        so("1%2 = 1");
        // 2 to the power 63, below 0: 3 goes into it with 2 left
        so("65536*65536*65536*32768/3*3 = 65536*65536*65536*32768+2");
        so("65536*65536*65536*32768%3 = 0-2");
    }

    private static void bothAre0By0() {
        Due.sentence("5", "both 0 by 0");
        so("5/0 = 0");
        so("5%0 = 0");
        so("0/0 = 0");
        so("0%0 = 0");
        so("5/shame = 0");
        so("5%day = 0");
        so("1+7/0*9 = 1");
        so("65536*65536*65536*32768/0 = 0");
    }

    private static void allGoesRound() {
        Due.sentence("5", "all goes round in 64 bits");
        String least = "65536*65536*65536*32768";
        so(least + " < 0");
        so(least + " - 1 > 0");
        so("0-" + least + " < 0");
        so(least + " + " + least + " = 0");
        so("65536*65536*65536*65536 = 0");
        so("65536*65536*65536*65536*0 = 0");
        so("65536*65536 > 65536*65535");
        so("65536*32768 > 0");
        so("99999*99999*99999 > 99999*99999");
        Due.is("a SUM gone round below 0", claimed("claim " + least), -2);
        Due.is("and round again", claimed("claim " + least + " - 1"), 0);
        Due.is("to 0", claimed("claim 65536*65536*65536*65536"), -2);
        Due.is("above 32 bits", claimed("claim 65536*65536"), 0);
        Due.is("above 32 bits, their sign", claimed("claim 65536*32768"), 0);
    }

    private static void blanksAsOneLikes() {
        Due.sentence("5", "Blanks (32) stand between as one likes.");
        Due.ruleStands("claim1if1=1and[1=1]or not 1=1");
        Due.ruleStands("claim1if[1<=1]or[1>=1];claim1");
        Due.ruleStands("   claim   1   if   [   1   <=   1   ]   ;   claim   fits   +   1   ");
        Due.ruleFault("claim 1 if 1 < |= 1", 0);
        Due.ruleFault("claim |fi ts", 0);
        Due.ruleFault("claim 1 |1", 0);
        Due.ruleFault("claim|\t1", 0);
        Due.ruleFault("claim 1|\n", 0);
        Due.ruleFault("claim 1|\u00a0", 0);
        Due.ruleFault("claim 1|\u0000", 0);
    }

    private static void tenDeep() {
        Due.sentence("5", "[ and not lie within one another 10 deep at most");
        Due.ruleStands("claim 1 if " + "[".repeat(10) + "1=1" + "]".repeat(10));
        Due.ruleStands("claim 1 if " + "not ".repeat(10) + "1=1");
        Due.ruleStands("claim 1 if " + "not [".repeat(5) + "1=1" + "]".repeat(5));
        Due.ruleFault("claim 1 if " + "[".repeat(10) + "|[1=1" + "]".repeat(11), 2);
        Due.ruleFault("claim 1 if " + "not ".repeat(10) + "|not 1=1", 2);
        Due.ruleFault("claim 1 if " + "not [".repeat(5) + "|not 1=1", 2);
        Due.ruleFault("claim 1 if " + "[not ".repeat(5) + "|[1=1", 2);
        // not ends with its FACT, [ with its ]: what comes behind lies as deep as these did
        Due.ruleStands("claim 1 if " + "not ".repeat(10) + "1=1 and " + "not ".repeat(10) + "1=1 or " + "not ".repeat(10) + "1=1");
        Due.ruleStands("claim 1 if " + "[".repeat(10) + "1=1" + "]".repeat(10) + " and " + "[".repeat(10) + "1=1" + "]".repeat(10));
        Due.ruleStands("claim 1 if " + "[".repeat(9) + "not 1=1 and not 1=1" + "]".repeat(9) + " or " + "not ".repeat(10) + "1=1");
        Due.ruleStands("claim 1 if not [" + "not [".repeat(4) + "1=1" + "]".repeat(5) + " and " + "not [".repeat(5) + "1=1" + "]".repeat(5));
        Due.ruleStands("claim 1 if " + "not ".repeat(10) + "1=1;claim 1 if " + "not ".repeat(10) + "1=1");
        Due.ruleFault("claim 1 if [" + "[".repeat(9) + "1=1" + "]".repeat(9) + " and " + "[".repeat(9) + "|[1=1", 2);
        Due.is("ten times not", claimed("claim 1 if " + "not ".repeat(10) + "person = 1"), 1);
        Due.is("nine times not", claimed("claim 1 if " + "not ".repeat(9) + "person = 0"), 1);
        Due.is("ten brackets", claimed("claim 1 if " + "[".repeat(10) + "person = 2" + "]".repeat(10)), 2);
    }

    private static void sixtyTogether() {
        Due.sentence("5", "at most 60 VALUES (of SUMS) and FACTS made of a SIGN, together");
        Due.ruleStands("claim 1" + "+1".repeat(59));
        Due.ruleFault("claim 1" + "+1".repeat(59) + "+|1", 3);
        // a FACT made of a SIGN is one, and its two VALUES are two
        Due.ruleStands("claim 1" + "+1".repeat(56) + " if 1=1");
        Due.ruleFault("claim 1" + "+1".repeat(57) + " if 1=|1", 3);
        Due.ruleFault("claim 1" + "+1".repeat(58) + " if 1|=1", 3);
        Due.ruleFault("claim 1" + "+1".repeat(59) + " if |1=1", 3);
        // [ and not, and and or, count for nothing
        Due.ruleStands("claim 1" + "+1".repeat(53) + " if [[[[not not not not [not 1=1 and 1=1]]]]]");
        // of all CLAUSES
        Due.ruleStands("claim 1+1+1+1+1;".repeat(11) + "claim 1+1+1+1+1");
        Due.ruleFault("claim 1+1+1+1+1;".repeat(11) + "claim 1+1+1+1+1+|1", 3);
        // of one RULE alone
        DoorLetters x = new DoorLetters();
        Due.is("one RULE", Due.rule(x, "claim 1" + "+1".repeat(59)), 0);
        Due.is("another RULE", Due.rule(x, "claim 1" + "+1".repeat(59)), 1);
        Due.is("the sixtieth", claimed("claim 0" + "+0".repeat(58) + "+person"), 1);
    }

    // ---- Terms: FAULTS of a RULE

    private static void faultIsTheFirst() {
        Due.sentence("5", "FAULTS, the first along the text, 1 + 8 * its place");
        Due.ruleFault("|x", 0);
        Due.ruleFault(" |if", 0);
        Due.ruleFault("claim |fit + 100000", 0);
        Due.ruleFault("claim |100000 + fit", 1);
        Due.ruleFault("claim 1 if " + "[".repeat(10) + "|[100000", 2);
        Due.ruleFault("claim 1" + "+1".repeat(59) + "+|1+fit", 3);
        Due.ruleFault("claim 1;".repeat(12) + "|claim fit", 4);
    }

    private static void faultOfAByte() {
        Due.sentence("5", "0 a byte or WORD that can't stand there");
        for (int b = 0; b < 256; b++) {
            // a sign of a SUM joins the 1 behind it; blanks and ; leave it, so that it can't stand; all else can't itself
            int due = "+-*/%".indexOf(b) >= 0 ? 0 : -2 - (1 + 8 * (b == ' ' || b == ';' ? 9 : 8));
            Due.is("byte " + b, Due.rule(new DoorLetters(), "claim 1 " + (char) b + "1"), due);
        }
        Due.ruleFault("|claims 1", 0);
        Due.ruleFault("|clai 1", 0);
        Due.ruleFault("|blaim 1", 0);
        Due.ruleFault("|village 1", 0);
        Due.ruleFault("|;claim 1", 0);
        Due.ruleFault("claim 1;|;claim 1", 0);
        Due.ruleFault("claim 1 |claim 1", 0);
        Due.ruleFault("claim |claim", 0);
        Due.ruleFault("claim |and", 0);
        Due.ruleFault("claim |-1", 0);
        Due.ruleFault("claim 1 |and 1", 0);
        Due.ruleFault("claim 1 |= 1", 0);
        Due.ruleFault("claim 1 if 1 |and 1=1", 0);
        Due.ruleFault("claim 1 if 1=1 |if 1=1", 0);
        Due.ruleFault("claim 1 if [1=1] |= 1", 0);
        Due.ruleFault("claim 1 if [1=1] |+ 1", 0);
        Due.ruleFault("claim 1 if [1=1|;claim 1", 0);
    }

    private static void faultAtTheEnd() {
        Due.sentence("5", "or the end (behind the last byte)");
        Due.ruleFault("|", 0);
        Due.ruleFault("    |", 0);
        Due.ruleFault("claim|", 0);
        Due.ruleFault("claim   |", 0);
        Due.ruleFault("claim 1+|", 0);
        Due.ruleFault("claim 1; |", 0);
        Due.ruleFault("claim 1 if |", 0);
        Due.ruleFault("claim 1 if 1|", 0);
        Due.ruleFault("claim 1 if 1*|", 0);
        Due.ruleFault("claim 1 if 1<=|", 0);
        Due.ruleFault("claim 1 if not|", 0);
        Due.ruleFault("claim 1 if [|", 0);
        Due.ruleFault("claim 1 if [1=1|", 0);
        Due.ruleFault("claim 1 if 1=1 and |", 0);
        Due.ruleFault("claim 1 if 1=1 or |", 0);
        Due.ruleFault("claim 1;".repeat(12) + "|", 0);
        Due.ruleFault("claim 1" + "+1".repeat(59) + "+|", 0);
        Due.ruleFault("claim" + " ".repeat(395) + "|", 0);
    }

    private static void faultOfANumber() {
        Due.sentence("5", "1 a NUMBER of more digits");
        Due.ruleStands("claim 12345");
        Due.ruleFault("claim |123456", 1);
        Due.ruleFault("claim 1 if |000001 = 1", 1);
        Due.ruleFault("claim 1 if 1 = |1234567890123", 1);
        Due.ruleFault("claim 1 |123456", 0);
    }

    private static void faultTooDeep() {
        Due.sentence("5", "2 too deep (at the sign that opens, or the word not)");
        Due.ruleFault("claim 1 if " + "[ ".repeat(10) + " |[ 1=1", 2);
        Due.ruleFault("claim 1 if " + "[ ".repeat(10) + " |not 1=1", 2);
        Due.ruleFault("claim 1 if " + "[".repeat(10) + "|[", 2);
        Due.ruleFault("claim 1 if " + "not ".repeat(10) + "|not", 2);
        Due.ruleFault("claim 1 if " + "not ".repeat(10) + "|nota", 0);
    }

    private static void faultOneTooMany() {
        Due.sentence("5", "3 one VALUE or FACT too many (at its first byte; of a FACT at its SIGN)");
        Due.ruleFault("claim 1" + "+1".repeat(59) + " + |lacks", 3);
        Due.ruleFault("claim 1" + "+1".repeat(59) + " + |12345", 3);
        Due.ruleFault("claim 1" + "+1".repeat(58) + " if lacks |<= 1", 3);
        Due.ruleFault("claim 1" + "+1".repeat(58) + " if lacks |>= 1", 3);
        Due.ruleFault("claim 1" + "+1".repeat(58) + " if lacks + |1 >= 1", 3);
    }

    private static void faultOfAClause() {
        Due.sentence("5", "4 one CLAUSE too many");
        Due.ruleFault("claim 1;".repeat(12) + " |claim 1", 4);
        Due.ruleFault("claim 1;".repeat(12) + "|claim", 4);
        Due.ruleFault("claim 1;".repeat(12) + "|claim 100000", 4);
    }

    private static void faultIsTheLeast() {
        Due.sentence("5", "Of one place the least.");
        Due.ruleFault("claim 1" + "+1".repeat(59) + "+|lack", 0);
        Due.ruleFault("claim 1" + "+1".repeat(59) + "+|if", 0);
        Due.ruleFault("claim 1" + "+1".repeat(59) + "+|123456", 1);
        Due.ruleFault("claim 1" + "+1".repeat(58) + " if 1 |and 1", 0);
        Due.ruleFault("claim 1;".repeat(12) + "|claims 1", 0);
        Due.ruleFault("claim 1;".repeat(12) + "|1", 0);
    }
}
