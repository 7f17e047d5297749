/** Promises 4 and 5: the language, its FAULTS, and what the WORDS and signs of a RULE say. */
public final class TextsTest {
    public static void main(String[] args) {
        villageFaults();
        ruleFaults();
        ruleLimits();
        textsAreApart();
        words();
        sums();
        tests();
        clauses();
        Due.end("TextsTest");
    }

    private static void villageFaults() {
        Due.villageFault("|", 0);
        Due.villageFault("   |", 0);
        Due.villageFault("|;", 0);
        Due.villageFault("|claim 1", 0);
        Due.villageFault("|villages 2", 0);
        Due.villageFault("|Village 2", 0);
        Due.villageFault("|villag", 0);
        Due.villageFault("|2", 0);
        Due.villageFault("village|", 0);
        Due.villageFault("village  |", 0);
        Due.villageFault("village |x", 0);
        Due.villageFault("village |-1", 0);
        Due.villageFault("village 2 |2", 0);
        Due.villageFault("village 2|.", 0);
        Due.villageFault("village 2|\u0000", 0);
        Due.villageFault("village 2|\u00ff", 0);
        Due.villageFault("village 2|\t", 0);
        Due.villageFault("village 2;|", 0);
        Due.villageFault("village 2; |", 0);
        Due.villageFault("village 2;|;", 0);
        Due.villageFault("village 2 |person 0 0 0", 0);
        Due.villageFault("village 2;person 0 0|", 0);
        Due.villageFault("village 2;person 0 |;", 0);
        Due.villageFault("village 2;person 0 0 0 |0", 0);
        Due.villageFault("village 2;letter|", 0);
        Due.villageFault("village 2;letter 1 |1", 0);
        Due.villageFault("village |0", 1);
        Due.villageFault("village |9", 1);
        Due.villageFault("village |99999", 1);
        Due.villageFault("village |000002", 1);
        Due.villageFault("village |99999999999999999999", 1);
        Due.villageFault("village 2;person |4 0 0", 1);
        Due.villageFault("village 8;person |256 0 0", 1);
        Due.villageFault("village 2;person 3 |10 0", 1);
        Due.villageFault("village 2;person 3 9 |10", 1);
        Due.villageFault("village 2;letter |4", 1);
        Due.villageFault("village 8;letter |256", 1);
        Due.villageFault("village 2;person |4 0 10", 1);
        Due.villageFault("village 2;letter |000000;x", 1);
        Due.villageFault("|person 0 0 0", 4);
        Due.villageFault(" |letter 0;village 2", 4);
        Due.villageFault("village 2;|village 2", 4);
        Due.villageFault("village 2;letter 1; |village", 4);
        Due.villageFault("village 1" + ";person 0 0 0".repeat(7) + ";|person 0 0 0", 4);
        Due.villageFault("village 1" + ";person 0 0 0".repeat(7) + ";|person 9 9 99", 4);
        Due.villageFault("village 1" + ";letter 0".repeat(10) + ";|letter 0", 4);
        Due.villageFault("village 1" + ";letter 0".repeat(10) + ";|letters 0", 0);
    }

    private static void ruleFaults() {
        Due.ruleFault("|", 0);
        Due.ruleFault(" |", 0);
        Due.ruleFault("|village 1", 0);
        Due.ruleFault("|claimfits", 0);
        Due.ruleFault("|claimz 1", 0);
        Due.ruleFault("|claima 1", 0);
        Due.ruleFault("claim|` 1", 0);
        Due.ruleFault("claim|{ 1", 0);
        Due.ruleFault("claim 1|:", 0);
        Due.ruleFault("claim 1/|", 0);
        Due.ruleFault("|if 1=1", 0);
        Due.ruleFault("claim |if 1=1", 0);
        Due.ruleFault("claim|", 0);
        Due.ruleFault("claim 1 +|", 0);
        Due.ruleFault("claim 1 +|+1", 0);
        Due.ruleFault("claim |-1", 0);
        Due.ruleFault("claim |[1]", 0);
        Due.ruleFault("claim |not", 0);
        Due.ruleFault("claim |lack", 0);
        Due.ruleFault("claim |claims", 0);
        Due.ruleFault("claim fits|1", 0);
        Due.ruleFault("claim 1 |2", 0);
        Due.ruleFault("claim 1 |fits", 0);
        Due.ruleFault("claim 1 |< 2", 0);
        Due.ruleFault("claim 1 |and 2", 0);
        Due.ruleFault("claim 1|]", 0);
        Due.ruleFault("claim 1;|", 0);
        Due.ruleFault("claim 1;|1", 0);
        Due.ruleFault("claim 1 if|", 0);
        Due.ruleFault("claim 1 |iff 1=1", 0);
        Due.ruleFault("claim 1 if 1|", 0);
        Due.ruleFault("claim 1 if 1 |;", 0);
        Due.ruleFault("claim 1 if 1 |and 1=1", 0);
        Due.ruleFault("claim 1 if 1 |if 1=1", 0);
        Due.ruleFault("claim 1 if 1=|", 0);
        Due.ruleFault("claim 1 if 1=|=1", 0);
        Due.ruleFault("claim 1 if 1<|>1", 0);
        Due.ruleFault("claim 1 if 1< |=1", 0);
        Due.ruleFault("claim 1 if 1=|<1", 0);
        Due.ruleFault("claim 1 if 1<=|=1", 0);
        Due.ruleFault("claim 1 if 1=1|=1", 0);
        Due.ruleFault("claim 1 if 1=|[1]", 0);
        Due.ruleFault("claim 1 if 1=|not 1", 0);
        Due.ruleFault("claim 1 if 1=1 and|", 0);
        Due.ruleFault("claim 1 if 1=1 or |and 1=1", 0);
        Due.ruleFault("claim 1 if 1=1 |not 1=1", 0);
        Due.ruleFault("claim 1 if 1=1 |if 1=1", 0);
        Due.ruleFault("claim 1 if 1=1|[1=1]", 0);
        Due.ruleFault("claim 1 if 1=1 |]", 0);
        Due.ruleFault("claim 1 if not|", 0);
        Due.ruleFault("claim 1 if |notnot 1=1", 0);
        Due.ruleFault("claim 1 if [|", 0);
        Due.ruleFault("claim 1 if [|]", 0);
        Due.ruleFault("claim 1 if [1|]", 0);
        Due.ruleFault("claim 1 if [1=1|", 0);
        Due.ruleFault("claim 1 if [1=1|;claim 1", 0);
        Due.ruleFault("claim 1 if [1=1]|]", 0);
        Due.ruleFault("claim 1 if [1=1]|=1", 0);
        Due.ruleFault("claim 1 if [1=1]|+1", 0);
        Due.ruleFault("claim 1 if [1=1] |1", 0);
        Due.ruleStands("claim 1 if [1=1] or1=1");
        Due.ruleFault("claim 1 if [1=1] |orr 1=1", 0);
        Due.ruleFault("claim 1 if |(1=1", 0);
        Due.ruleFault("claim 1|,claim 1", 0);
        Due.ruleFault("claim 1|\u00e9", 0);
        Due.ruleFault("claim |100000", 1);
        Due.ruleFault("claim |000001", 1);
        Due.ruleFault("claim 1 if 1 = |999999", 1);
        Due.ruleFault("claim 1 |100000", 0);
    }

    private static void ruleLimits() {
        String brackets = "[".repeat(10);
        Due.ruleFault("claim 1 if " + brackets + "|[1=1" + "]".repeat(11), 2);
        Due.ruleFault("claim 1 if " + "not ".repeat(10) + "|not 1=1", 2);
        Due.ruleFault("claim 1 if " + "not ".repeat(10) + "|[1=1]", 2);
        Due.ruleFault("claim 1 if " + brackets + "|not 1=1", 2);
        Due.ruleFault("claim 1 if [1=1 and not " + "[".repeat(8) + "1=1 or |[1=1", 2);
        Due.ruleStands("claim 1 if " + brackets + "1=1" + "]".repeat(10));
        Due.ruleStands("claim 1 if " + "not ".repeat(10) + "1=1");
        Due.ruleStands("claim 1 if " + "not ".repeat(10) + "1=1 and " + "not ".repeat(10) + "1=1 or " + brackets + "1=1"
            + "]".repeat(10) + ";claim 1 if " + brackets + "1=1" + "]".repeat(10));
        Due.ruleStands("claim 1 if not [not 1=1] and " + "not ".repeat(10) + "1=1");
        Due.ruleStands("claim 1 if [" + "not [".repeat(4) + "not 1=1" + "]".repeat(4) + " and " + "not ".repeat(9) + "1=1]");
        Due.ruleStands("claim 1" + "*1".repeat(59));
        Due.ruleFault("claim 1" + "*1".repeat(59) + "-|1", 3);
        Due.ruleFault("claim 1" + "*1".repeat(59) + "-|lacks", 3);
        Due.ruleFault("claim 1" + "*1".repeat(59) + "-|lack", 0);
        Due.ruleFault("claim 1" + "*1".repeat(59) + "-|123456", 1);
        Due.ruleFault("claim 1" + "*1".repeat(59) + "-|", 0);
        // 1 and 19 FACTS of 3 are 58; two more VALUES, and the SIGN is one too many
        String long58 = "claim 1 if 1=1" + " and 1=1".repeat(18);
        Due.ruleStands(long58);
        Due.ruleFault(long58 + " and 1+1 |<= 1", 3);
        Due.ruleFault(long58 + " and 1 = |1", 3);
        Due.ruleFault(long58 + ";claim 1;claim 1;claim |1", 3);
        Due.ruleFault(long58 + ";claim 1;claim 1 if |1 = 1", 3);
        Due.ruleStands("claim 1;".repeat(11) + "claim 1");
        Due.ruleFault("claim 1;".repeat(12) + "|claim 1", 4);
        Due.ruleFault("claim 1;".repeat(12) + "|claim", 4);
        Due.ruleFault("claim 1;".repeat(12) + "|claims", 0);
        Due.ruleFault("claim 1;".repeat(12) + "|", 0);
    }

    /** What a faulty text left open doesn't reach the next one. */
    private static void textsAreApart() {
        DoorLetters x = new DoorLetters();
        String deep = "claim 1 if " + "not [".repeat(5) + "1=1" + "]".repeat(5);
        for (int i = 0; i < 5; i++) {
            Due.is("5: left open", Due.rule(x, deep.substring(0, deep.length() - 1)), -2 - (1 + 8 * (deep.length() - 1)));
            Due.is("5: too many parts", Due.rule(x, "claim 1" + "+1".repeat(60)), -2 - (1 + 8 * 126 + 3));
            Due.is("5: too many CLAUSES", Due.rule(x, "claim 1;".repeat(13)), -2 - (1 + 8 * 96 + 4));
            Due.is("5: an operation waits", Due.rule(x, "claim 1 if 1=1 or 1=1 and not 1+"), -2 - (1 + 8 * 32));
            Due.is("5: as deep as can be", Due.rule(x, deep), i);
        }
        Due.village(x, "village 1;person 1 0 0;person 1 0 0;letter 1");
        x.force(4);
        Due.is("5: not five times", x.day(), -2);
        Due.is("4: a FAULT", Due.village(x, "village 1;person 1 0 0;letter 1;letter 1;x"), -2 - (1 + 8 * 41));
        Due.is("4: none of it stays", Due.village(x, "village 1"), 0);
        Due.is("4: none of it stays", x.count(2), 0);
    }

    /** Whether PERSON 1, who reads LETTER 1 on DAY 5 as the second one, and HAS 3, CLAIMS it by this TEST. */
    private static boolean holds(String test) {
        DoorLetters x = Due.told("village 6;person 0 0 0;person 37 7 2;letter 63;letter 11",
            "claim 1 if person=1 and day<3;claim 0",
            "claim 1 if person = 1 and [" + test + "]");
        x.day();
        x.day();
        x.day();
        x.day();
        x.day();
        Due.is("5: PERSON 1 HAS 3", x.person(1, 3), 3);
        x.force(1);
        int who = x.day();
        Due.holds("5: PERSON 1 or nobody", who == 1 || who == -2);
        return who == 1;
    }

    private static void so(String test) {
        Due.holds("5: so: " + test, holds(test));
        Due.holds("5: so: not [" + test + "]", !holds("not [" + test + "]"));
    }

    private static void notSo(String test) {
        Due.holds("5: not so: " + test, !holds(test));
    }

    private static void words() {
        so("person = 1");
        so("fits = 1");
        so("lacks = 2");
        so("beyond = 2");
        so("pride = 7");
        // 2, and LACKS 3, 2 and 3 of the LETTERS of DAYS 0 to 2
        so("shame = 10");
        so("seen = 1");
        so("has = 3");
        so("letter = 1");
        so("day = 5");
        so("seen=1 and fits<lacks and letter<day");
    }

    private static void sums() {
        so("1+2*3 = 7");
        so("2*3+1 = 7");
        so("10-3-2 = 5");
        so("10-3+2 = 9");
        so("7/2 = 3");
        so("7/2*2 = 6");
        so("7%4*2 = 6");
        so("12/3/2 = 2");
        so("100%7 = 2");
        so("5/0 = 0");
        so("5%0 = 0");
        so("1+5/0*3 = 1");
        so("99999 = 100*999+99");
        so("00012 = 12");
        so("0-1 < 0");
        so("65536*65536*65536*32767 > 0");
        so("65536*65536*65536*32768 < 0");
        so("65536*65536*65536*65536 = 0");
        so("65536*65536*65536*32768-1 > 0");
        so("0-65536*65536*65536*32768 < 0");
        // towards 0, and the rest has the sign of what is divided
        so("65536*65536*65536*32768/65536 = 0-65536*65536*32768");
        so("65536*65536*65536*32768%3 = 0-2");
        so("65536*65536*65536*32768/3*3 = 65536*65536*65536*32768+2");
        so("seen*10+letter*has-pride%4 = 10");
    }

    private static void tests() {
        so("1 < 2");
        notSo("2 < 2");
        so("2 <= 2");
        so("1 <= 2");
        notSo("3 <= 2");
        so("2 = 2");
        notSo("3 = 2");
        so("2 >= 2");
        so("3>=2");
        notSo("1 >= 2");
        so("2 > 1");
        notSo("2 > 2");
        so("1=2 or 1=1");
        so("1=1 or 1=2 and 1=2");
        notSo("[1=1 or 1=2] and 1=2");
        so("1=2 and 1=2 or 1=1");
        notSo("not 1=1 or 1=2");
        so("not 1=2 and 1=1");
        notSo("not 1=2 and 1=2");
        so("not not 1=1");
        notSo("not not not 1=1");
        so("not[1=2]and not[1=2 or 1=3]or 1=2");
        so("[[1=1]and[1=2 or[1=1]]]");
        so("1=1and 1=1or 1=2");
    }

    private static void clauses() {
        // PEOPLE 0 to 3, of whom none LACKS anything
        String people = "village 1;person 1 9 0;person 1 9 0;person 1 9 0;person 1 9 0;letter 1";
        Due.is("5: above 0", Due.told(people, "claim person").day(), 1);
        Due.is("5: not below 0", Due.told(people, "claim person - 2").day(), 3);
        Due.is("5: the first whose TEST holds",
            Due.told(people, "claim 0 if person < 2;claim 1 if person = 1;claim person - 2").day(), 3);
        Due.is("5: one without a TEST ends it", Due.told(people, "claim 0;claim 1").day(), -2);
        Due.is("5: 0 without", Due.told(people, "claim 1 if person = 9").day(), -2);
        Due.is("5: the SUM of that CLAUSE", Due.told(people, "claim 5 if 1=2; claim person-1 if 1=1; claim 9").day(), 2);
        Due.is("5: not at the top", Due.told(people, "claim 1 if not person < 2").day(), 2);
        Due.is("5: not at the top", Due.told(people, "claim 1 if not person >= 0").day(), -2);
        Due.is("5: the twelfth CLAUSE", Due.told(people, "claim 1 if 1=2;".repeat(11) + "claim 1").day(), 0);
    }
}
