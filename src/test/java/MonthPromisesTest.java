/** Promises 13 to 21: months and plans. */
public final class MonthPromisesTest {
    private static final int NONE = -1, BAD = -2;

    public static void main(String[] args) {
        promise13();
        promise13Lendings();
        promise14();
        promise14Months();
        promise15();
        promise16();
        promise17();
        promise18();
        promise19();
        promise20();
        promise21();
        Check.end("MonthPromisesTest");
    }

    private static void due(String what, long got, long want) {
        Check.due(what, got, want);
    }

    private static void rationAll(OunceLetters x, int v) {
        for (int letter = 0; letter < 8; letter++) {
            x.ration(letter, v);
        }
    }

    private static void promise13() {
        OunceLetters x = Check.of("r1;m1;v2", "a1");
        due("13: month 12", x.has(12, 0, 0), BAD);
        due("13: month -1", x.has(-1, 0, 0), BAD);
        due("13: house 3", x.has(0, 3, 0), BAD);
        due("13: house -1", x.has(0, -1, 0), BAD);
        due("13: letter 8", x.has(0, 0, 8), BAD);
        due("13: letter -2", x.has(0, 0, -2), BAD);
        x.ration(1, 9);
        int[] miser = {9, 13, 15, 16, 17, 17, 17};
        for (int month = 0; month < 7; month++) {
            due("13: a plain one keeps nothing", x.has(month, 0, 1), 9);
            due("13: a miser keeps half, cut", x.has(month, 1, 1), miser[month]);
            due("13: one without vowels keeps nothing", x.has(month, 2, 1), 18);
        }
        due("13: all together", x.has(0, 0, NONE), 7 * 2 + 9);
        due("13: all together", x.has(0, 2, NONE), 2 * (7 * 2 + 9));
        due("13: all of a miser", x.has(1, 1, NONE), 7 * 3 + 13);
    }

    private static void promise13Lendings() {
        OunceLetters x = Check.of("r1;r1;m1", "a1;aa1");
        x.ration(0, 1);
        x.writing(0, 1, 1);
        x.lending(0, 0, 1, 0);
        due("13: lent before it is written", x.became(0), 1);
        due("13: the one", x.has(0, 0, 0), 0);
        due("13: the other spent it", x.has(0, 1, 0), 0);
        x.lending(0, 0, 1, 0);
        due("13: none is left to be lent", x.has(0, 1, 0), 0);
        x.lending(0, 2, 0, 0);
        x.lending(0, 0, 1, 0);
        due("13: as told, one behind the other", x.has(0, 1, 0), 1);
        due("13: passed on", x.has(0, 0, 0), 0);
        due("13: given", x.has(0, 2, 0), 0);
        x.lending(1, 1, 3, 1);
        due("13: not to a house that there is not", x.has(1, 1, 1), 2);
        x.lending(1, 3, 1, 2);
        due("13: not from a house that there is not", x.has(1, 1, 2), 2);
        x.lending(2, 1, 2, 5);
        due("13: a miser in month 2 has 3 and 1", x.has(2, 2, 5), 4);
        due("13: and keeps half", x.has(3, 2, 5), 4);
        due("13: but not ahead", x.has(1, 2, 5), 3);
        due("13: a plain one lent in its month alone", x.has(3, 1, 5), 2);
    }

    private static void promise14() {
        OunceLetters x = Check.of("r1;v1", "abb3;ae1;aaab2;bbb2");
        due("14: none", x.became(0), BAD);
        due("14: -1", x.became(-1), BAD);
        x.writing(0, 0, 0);
        x.writing(0, 0, 0);
        x.writing(0, 1, 2);
        x.writing(0, 1, 1);
        x.writing(0, 1, 1);
        x.writing(0, 1, 1);
        x.writing(0, 1, 3);
        x.writing(0, 2, 0);
        x.writing(0, 0, 4);
        int[] want = {1, 3, 2, 1, 1, 3, 3, 0, 0};
        for (int w = 0; w < want.length; w++) {
            due("14: writing " + w, x.became(w), want[w]);
        }
        due("14: no such", x.became(9), BAD);
        due("14: short takes no vowels, then two of them go", x.has(0, 1, 0), 0);
        due("14: short takes what is no vowel", x.has(0, 1, 1), 1);
        due("14: a fine takes nothing", x.has(0, 0, 0), 1);
        x.type(0, 'x');
        due("14: no houses, nothing", x.became(0), 0);
        x.undo(0);
        x.undo(1);
        due("14: no terms, nothing", x.became(0), 0);
    }

    private static void promise14Months() {
        OunceLetters x = Check.of("m1", "bb1;bbb1;bbbb1");
        x.writing(1, 0, 1);
        x.writing(0, 0, 0);
        due("14: nothing was left over", x.became(0), 3);
        due("14: what is told later may come earlier", x.became(1), 1);
        x.back(0);
        due("14: one was left over", x.became(0), 1);
        due("14: spent", x.has(1, 0, 1), 0);
        OunceLetters y = Check.of("v1", "ab1;ab1;bbb2");
        y.ration(0, 0);
        y.writing(5, 0, 0);
        y.writing(5, 0, 1);
        y.writing(5, 0, 0);
        due("14: short", y.became(0), 2);
        due("14: short", y.became(1), 2);
        due("14: no b is left", y.became(2), 3);
    }

    private static void promise15() {
        OunceLetters x = Check.of("r1;r9", "bbb1");
        due("15: none", x.fines(0), 0);
        due("15: house 2", x.fines(2), BAD);
        due("15: house -1", x.fines(-1), BAD);
        for (int i = 0; i < 5; i++) {
            x.writing(i % 2, 0, 0);
        }
        for (int i = 0; i < 7; i++) {
            x.writing(0, 1, 0);
        }
        due("15: each once", x.fines(0), 5);
        due("15: the seventh of 18 by 3", x.fines(1), 1);
        due("15: of all", x.count(6), 6);
        x.back(0);
        due("15: undone", x.fines(1), 0);
        x.ration(1, 3);
        due("15: with more, one in each month", x.fines(0), 3);
    }

    private static void promise16() {
        OunceLetters x = Check.of("v1;r2", "aab1;aaab1;hhhhh2");
        due("16: letter 8", x.spent(8), BAD);
        due("16: letter -1", x.spent(-1), BAD);
        due("16: none", x.spent(0), 0);
        x.writing(3, 0, 0);
        x.writing(3, 0, 1);
        x.writing(4, 1, 1);
        x.writing(4, 1, 2);
        x.writing(4, 2, 0);
        due("16: short spends no vowels", x.spent(0), 5);
        due("16: but others", x.spent(1), 3);
        due("16: a fine spends none", x.spent(7), 0);
        due("16: none", x.spent(4), 0);
    }

    private static void promise17() {
        OunceLetters x = Check.of("r1;r1;r2", "b1;bb1");
        due("17: what 2", x.bare(2), BAD);
        due("17: what -1", x.bare(-1), BAD);
        due("17: none", x.bare(0), NONE);
        due("17: none", x.bare(1), NONE);
        rationAll(x, 0);
        due("17: at once", x.bare(0), 0);
        due("17: the least", x.bare(1), 0);
        x.ration(1, 1);
        due("17: none", x.bare(0), NONE);
        x.writing(5, 2, 0);
        x.writing(7, 0, 0);
        x.writing(4, 1, 0);
        due("17: the first month", x.bare(0), 4);
        due("17: who", x.bare(1), 1);
        x.back(0);
        due("17: one of two is left in month 5", x.bare(0), 7);
        due("17: who", x.bare(1), 0);
        x.writing(5, 2, 0);
        due("17: both are gone", x.bare(0), 5);
        due("17: who", x.bare(1), 2);
        x.lending(5, 1, 0, 1);
        due("17: lent away", x.bare(0), 5);
        due("17: the least of two", x.bare(1), 1);
        x.wipe(0);
        due("17: no houses", x.bare(0), NONE);
        due("17: no houses", x.bare(1), NONE);
    }

    private static void promise18() {
        OunceLetters x = Check.of("r1;r2", "bbbc1;cd1;dc1;h2;bb1;aaa3");
        due("18: month 12", x.say(12, 0, 1), BAD);
        due("18: month -1", x.say(-1, 0, 1), BAD);
        due("18: house 2", x.say(0, 2, 1), BAD);
        due("18: house -1", x.say(0, -1, 1), BAD);
        due("18: meaning 10", x.say(0, 0, 10), BAD);
        due("18: meaning -1", x.say(0, 0, -1), BAD);
        due("18: fewest, the least", x.say(0, 0, 1), 1);
        due("18: the only one", x.say(0, 0, 2), 3);
        due("18: not so many", x.say(0, 0, 3), NONE);
        due("18: enough", x.say(0, 1, 3), 5);
        due("18: no such meaning", x.say(0, 0, 0), NONE);
        x.ration(3, 0);
        due("18: with no d", x.say(0, 0, 1), 4);
        x.ration(1, 1);
        due("18: with one b", x.say(0, 0, 1), NONE);
        due("18: with two b", x.say(0, 1, 1), 4);
        x.writing(3, 1, 4);
        due("18: behind the month", x.say(3, 1, 1), NONE);
        due("18: behind another", x.say(2, 1, 1), 4);
        OunceLetters y = Check.of("v1", "ab1");
        due("18: term 0", y.say(0, 0, 1), 0);
        y.ration(0, 0);
        due("18: short does not count", y.say(0, 0, 1), NONE);
        OunceLetters z = Check.of("r1", "bbb1;bbb1;bbb1;bbb1;bbb1;bbb1;bbb1;b1");
        due("18: term 7", z.say(0, 0, 1), 7);
    }

    private static void promise19() {
        OunceLetters x = Check.of("r1;r9", "bb0;b1;b2;cc3;ccc4;bc5");
        due("19: month 12", x.most(12, 0, 0), BAD);
        due("19: month -1", x.most(-1, 0, 0), BAD);
        due("19: house 2", x.most(0, 2, 0), BAD);
        due("19: house -1", x.most(0, -1, 0), BAD);
        due("19: what 2", x.most(0, 0, 2), BAD);
        due("19: what -1", x.most(0, 0, -1), BAD);
        due("19: how many", x.most(0, 0, 0), 3);
        due("19: of like ones the least bits", x.most(0, 0, 1), 2 + 4 + 8);
        due("19: all", x.most(0, 1, 0), 6);
        due("19: all", x.most(0, 1, 1), 63);
        x.writing(2, 0, 1);
        due("19: with one b", x.most(2, 0, 0), 2);
        due("19: with one b", x.most(2, 0, 1), 2 + 8);
        due("19: a month later", x.most(3, 0, 0), 3);
        rationAll(x, 0);
        due("19: none", x.most(0, 0, 0), 0);
        due("19: none", x.most(0, 0, 1), 0);
        x.wipe(1);
        due("19: no terms", x.most(0, 0, 0), 0);
        OunceLetters y = Check.of("v1", "ab1");
        due("19: term 0", y.most(0, 0, 1), 1);
        y.ration(0, 0);
        due("19: short does not count", y.most(0, 0, 0), 0);
        OunceLetters z = Check.of("r1", "bbb1;b1;b1;c1;c1;d1;d1;h1");
        due("19: term 7", z.most(0, 0, 1), 254);
        due("19: seven", z.most(0, 0, 0), 7);
    }

    private static void promise20() {
        OunceLetters x = Check.of("", "abc0;ab1;bc2;c3;ca4;g5;abc6;bbbbb7");
        due("20: word 8", x.papers(8, 0), BAD);
        due("20: word -1", x.papers(-1, 0), BAD);
        due("20: what 2", x.papers(0, 2), BAD);
        due("20: what -1", x.papers(0, -1), BAD);
        due("20: another that is the same", x.papers(0, 0), 1);
        due("20: as bits", x.papers(0, 1), 64);
        due("20: the first of them", x.papers(6, 1), 1);
        due("20: of like ones the least", x.papers(1, 1), 1);
        due("20: not itself", x.papers(3, 1), 1);
        due("20: nobody has it", x.papers(5, 0), NONE);
        due("20: nobody has it", x.papers(5, 1), NONE);
        due("20: not so many b", x.papers(7, 0), NONE);
        OunceLetters y = Check.of("", "aabb1;ab1;a1;bb1;aab1;b1");
        due("20: two", y.papers(0, 0), 2);
        due("20: the least bits of two", y.papers(0, 1), 16 + 2);
        y.wipe(1);
        Check.type(y, 1, "bbb1;b1;b2;b3;b4");
        due("20: three", y.papers(0, 0), 3);
        due("20: three, as bits", y.papers(0, 1), 2 + 4 + 8);
        OunceLetters z = Check.of("", "a0");
        due("20: no others", z.papers(0, 0), NONE);
        OunceLetters w = Check.of("", "aaaaaa1;a1;a1;a1;a1;a1;b1;a1");
        due("20: six of seven", w.papers(0, 0), 6);
        due("20: six of seven", w.papers(0, 1), 254 - 64);
    }

    private static void promise21() {
        OunceLetters x = Check.of("r1;m1;v1", "aabbb1;abcdef2;bbbbbb3");
        due("21: none", x.lend(0), BAD);
        due("21: -1", x.lend(-1), BAD);
        x.writing(2, 0, 0);
        x.writing(2, 0, 1);
        x.writing(2, 1, 2);
        x.writing(2, 2, 0);
        x.writing(2, 3, 0);
        x.writing(2, 0, 3);
        due("21: one b", x.lend(0), 1);
        due("21: none: what was fined took nothing", x.lend(1), 0);
        due("21: a miser has three", x.lend(2), 3);
        due("21: in full, not short", x.lend(3), 1);
        due("21: no such house", x.lend(4), NONE);
        due("21: no such term", x.lend(5), NONE);
        due("21: no such writing", x.lend(6), BAD);
        x.lending(2, 1, 0, 1);
        x.lending(1, 1, 2, 1);
        due("21: lendings told do not count", x.lend(0), 1);
        due("21: lendings told do not count", x.lend(2), 3);
        x.writing(1, 1, 0);
        due("21: what was written in a month before", x.lend(2), 4);
        x.writing(2, 0, 1);
        due("21: what was written before takes", x.lend(7), 0);
        x.writing(2, 0, 1);
        due("21: of all kinds", x.lend(8), 6);
    }
}
