/** The boundary cases of promises 13 to 21: months and plans. */
final class MonthBoundaries {
    private static final String EIGHT_HOUSES = "houses r1;m2;v3;r4;m5;v6;r7;m8";
    private static final String EIGHT_TERMS = "terms a1;b2;c3;d4;e5;f6;g7;h8";
    private static final String MONTHS = "MONTHS are 0 to 11.";
    private static final String HOUSES = "8 at most (0 on), with ; between them: r (plain)";
    private static final String SUCH = "(With no such HOUSE, no such TERM, nothing.)";

    private MonthBoundaries() {
    }

    static void holdAll() {
        has();
        half();
        rationTimesHeads();
        lendings();
        lendingsAsTold();
        monthInOrder();
        became();
        inFull();
        isShort();
        vowels();
        nothing();
        fines();
        spent();
        bare();
        say();
        sayLike();
        most();
        mostEach();
        papers();
        lend();
        lendInPlace();
    }

    private static void has() {
        String sentence = "How many of a LETTER (NONE: all together) a HOUSE has.";
        Script.range(13, MONTHS, EIGHT_HOUSES, "has ? 7 7", 0, 11);
        Script.range(13, HOUSES, EIGHT_HOUSES, "has 11 ? NONE", 0, 7);
        Script.range(13, "BAD.", "houses r1", "has 0 ? 0", 0, 0);
        Script.range(13, sentence, EIGHT_HOUSES, "has 0 0 ?", -1, 7);
        Script.hold(13, "BAD.", "has 0 0 0 = BAD", "has 0 0 NONE = BAD", "houses r1;", "has 0 0 0 = BAD");
        Script.hold(13, "Behind a MONTH: how many of a LETTER a HOUSE has;",
            "houses r1", "ration 0 0", "ration 7 9", "has 0 0 0 = 0", "has 0 0 1 = 2",
            "has 0 0 7 = 9");
        Script.hold(13, "all together.", "houses m9", "rations 0", "has 0 0 NONE = 0", "ration 0 1", "has 0 0 NONE = 9", "ration 0 0",
            "ration 7 1", "has 0 0 NONE = 9", "rations 9", "has 0 0 NONE = 648", "has 11 0 NONE = 1288");
    }

    private static void half() {
        String sentence = "a miser keeps half (cut)";
        Script.hold(13, sentence, "houses m1", "ration 0 0", "has 0 0 0 = 0", "has 11 0 0 = 0");
        Script.hold(13, sentence, "houses m1", "ration 0 1", "has 0 0 0 = 1", "has 1 0 0 = 1", "has 11 0 0 = 1");
        Script.hold(13, sentence, "houses m1", "ration 0 2", "has 0 0 0 = 2", "has 1 0 0 = 3", "has 2 0 0 = 3", "has 11 0 0 = 3");
        Script.hold(13, sentence, "houses m1", "ration 0 3", "has 0 0 0 = 3", "has 1 0 0 = 4", "has 2 0 0 = 5", "has 3 0 0 = 5", "has 11 0 0 = 5");
        Script.hold(13, sentence, "houses m9", "ration 7 9", "has 0 0 7 = 81", "has 1 0 7 = 121", "has 2 0 7 = 141", "has 3 0 7 = 151",
            "has 4 0 7 = 156", "has 5 0 7 = 159", "has 6 0 7 = 160", "has 7 0 7 = 161", "has 8 0 7 = 161", "has 11 0 7 = 161");
        Script.hold(13, sentence, "houses m1", "terms bb1;b1", "writing 0 0 0", "has 0 0 1 = 0", "has 1 0 1 = 2", "writing 0 0 1",
            "back 0", "back 0", "writing 0 0 1", "has 0 0 1 = 1", "has 1 0 1 = 2", "has 1 0 2 = 3");
        Script.hold(13, "others nothing;", "houses r9;v9", "ration 7 9", "has 0 0 7 = 81", "has 1 0 7 = 81", "has 11 0 7 = 81", "has 0 1 7 = 81",
            "has 1 1 7 = 81", "has 11 1 7 = 81");
    }

    private static void rationTimesHeads() {
        Script.hold(13, "then each gets RATION times HEADS of each.", "houses r1;r9;v1;v9;m1;m9", "ration 0 0", "ration 1 1", "ration 2 9",
            "has 0 0 0 = 0", "has 0 1 0 = 0", "has 0 0 1 = 1", "has 0 1 1 = 9", "has 0 0 2 = 9", "has 0 1 2 = 81", "has 0 2 1 = 1",
            "has 0 3 1 = 9", "has 0 3 2 = 81", "has 0 4 2 = 9", "has 0 5 2 = 81", "has 0 5 0 = 0", "has 11 1 2 = 81");
    }

    private static void lendings() {
        String sentence = "if the one has such a LETTER";
        for (int month : new int[] {0, 5, 11}) {
            Script.hold(13, sentence, "houses r1;r1", "ration 0 1", "ration 1 0", "lending " + month + " 0 1 0", "has " + month + " 0 0 = 0",
                "has " + month + " 1 0 = 2", "lending " + month + " 0 1 0", "has " + month + " 0 0 = 0", "has " + month + " 1 0 = 2",
                "lending " + month + " 0 1 1", "has " + month + " 0 1 = 0", "has " + month + " 1 1 = 0", "has " + (month + 5) % 12 + " 1 0 = 1");
        }
        Script.hold(13, "(and there are both HOUSES)", "houses r1;r1;r1;r1;r1;r1;r1", "lending 0 0 7 0", "has 0 0 0 = 2", "lending 0 7 0 1",
            "has 0 0 1 = 2", "houses ;r1", "has 0 0 0 = 1", "has 0 7 0 = 3", "has 0 0 1 = 3", "has 0 7 1 = 1", "undo 0", "count 0 = 0");
        Script.hold(13, "(and there are both HOUSES)", "houses r1", "lending 0 0 1 0", "has 0 0 0 = 2", "lending 0 1 0 0", "has 0 0 0 = 2");
        for (int other = 1; other < 8; other++) {
            Script.hold(13, "(and there are both HOUSES)", "houses r1", "lending 0 0 " + other + " 0", "lending 0 " + other + " 0 1",
                "has 0 0 0 = 2", "has 0 0 1 = 2", "has 0 0 NONE = 16");
        }
        Script.hold(13, "in a MONTH a HOUSE gives one of a LETTER to another one", EIGHT_HOUSES, "lending 11 7 0 7", "has 11 7 7 = 30",
            "has 11 0 7 = 3", "has 10 7 7 = 31", "has 10 0 7 = 2", "lending 0 0 7 0", "has 0 0 0 = 1", "has 0 7 0 = 17", "has 1 0 0 = 2");
    }

    private static void lendingsAsTold() {
        String sentence = "Then LENDINGS, as told";
        Script.hold(13, sentence, "houses r1;r1;r1", "ration 0 1", "lending 0 1 2 0", "lending 0 1 0 0", "lending 0 0 1 0", "has 0 0 0 = 0",
            "has 0 1 0 = 1", "has 0 2 0 = 2");
        Script.hold(13, sentence, "houses r1;r1;r1", "ration 0 1", "lending 0 0 1 0", "lending 0 1 2 0", "lending 0 1 2 0", "has 0 0 0 = 0",
            "has 0 1 0 = 0", "has 0 2 0 = 3");
        Script.hold(13, sentence, "houses r1;m1", "ration 0 1", "lending 1 0 1 0", "lending 0 0 1 0", "has 0 1 0 = 2", "has 1 1 0 = 3",
            "has 2 1 0 = 2", "has 3 1 0 = 2");
    }

    private static void monthInOrder() {
        Script.hold(14, "Then WRITINGS, as told", "houses r1;r1", "ration 0 1", "terms aa1", "writing 0 1 0", "lending 0 0 1 0", "became 0 = 1",
            "has 0 1 0 = 0");
        Script.hold(14, "Then WRITINGS, as told", "houses r1;r1", "ration 0 1", "terms a1", "writing 0 0 0", "lending 0 0 1 0", "became 0 = 3");
        Script.hold(14, "Then WRITINGS, as told", "houses r1", "terms bb1;b1", "writing 0 0 1", "writing 0 0 0", "became 0 = 1", "became 1 = 3",
            "back 0", "back 0", "writing 0 0 0", "writing 0 0 1", "became 0 = 1", "became 1 = 3", "fines 0 = 1");
        Script.hold(14, "In a MONTH first of what is left of each LETTER", "houses m1", "terms bbb1", "writing 0 0 0", "writing 1 0 0",
            "became 0 = 3", "became 1 = 1", "has 1 0 1 = 0", "has 2 0 1 = 2");
        Script.hold(14, "In a MONTH first of what is left of each LETTER", "houses m1", "terms bb1;bbb1", "writing 11 0 1", "writing 10 0 0",
            "became 0 = 3", "became 1 = 1", "has 10 0 1 = 1", "has 11 0 1 = 2", "back 0", "became 0 = 1", "has 11 0 1 = 0");
    }

    private static void became() {
        Script.range(14, "BAD: no such.", "12* writing 0 0 0", "became ?", 0, 11);
        Script.range(14, "BAD: no such.", "writing 11 7 7", "became ?", 0, 0);
        Script.hold(14, "BAD: no such.", "became 0 = BAD", "writing 0 0 0", "became 0 = 0", "became 1 = BAD", "back 0", "became 0 = BAD");
        Script.hold(14, "Of a WRITING: what became of it (0 nothing, 1 IN FULL, 2 SHORT, 3 FINED).",
            "houses v1", "terms abb1;bbb1", "ration 0 0", "writing 0 0 1",
            "writing 0 0 0", "writing 0 0 0", "writing 0 1 0", "writing 0 0 2", "ration 1 5", "became 0 = 1", "became 1 = 2", "became 2 = 3",
            "became 3 = 0", "became 4 = 0");
        Script.hold(14, "What became of a WRITING.", "houses r1;r1;r1;r1;r1;r1;r1;r1", "terms a1;b1;c1;d1;e1;f1;g1;hh1", "ration 7 1",
            "11* writing 0 0 0", "writing 11 7 7", "became 0 = 1", "became 1 = 1", "became 2 = 3", "became 11 = 3", "ration 7 2", "became 11 = 1");
    }

    private static void inFull() {
        String sentence = "if it has all LETTERS of the TERM, it is written IN FULL";
        Script.hold(14, sentence, "houses r1", "terms bb1;bbb1", "writing 0 0 0", "became 0 = 1", "has 0 0 1 = 0", "back 0", "writing 0 0 1",
            "became 0 = 3", "has 0 0 1 = 2", "ration 1 3", "became 0 = 1", "has 0 0 1 = 0");
        for (int letter = 0; letter < 6; letter++) {
            Script.hold(14, sentence, "houses r1", "terms abcdef1", "rations 1", "writing 0 0 0", "became 0 = 1", "has 0 0 NONE = 2",
                "ration " + letter + " 0", "became 0 = 3", "has 0 0 NONE = 7");
        }
        Script.hold(14, sentence, "houses r1", "terms gh1", "rations 0", "writing 0 0 0", "ration 6 1", "became 0 = 3", "ration 7 1",
            "became 0 = 1", "ration 6 0", "became 0 = 3");
        Script.hold(14, "and these are spent.", "houses r1;r1", "terms aaabbc1", "rations 3", "writing 0 0 0", "has 0 0 0 = 0", "has 0 0 1 = 1",
            "has 0 0 2 = 2", "has 0 0 3 = 3", "has 0 1 0 = 3", "has 0 0 NONE = 18", "spent 0 = 3", "spent 1 = 2", "spent 2 = 1", "spent 3 = 0");
        Script.hold(14, "Else it is FINED (once).", "houses r1;m1;v1", "terms abcdef1", "rations 0", "writing 0 0 0", "writing 0 1 0",
            "writing 0 2 0", "became 0 = 3", "became 1 = 3", "became 2 = 3", "fines 0 = 1", "fines 1 = 1", "fines 2 = 1", "count 6 = 3");
        Script.hold(14, "Else it is FINED (once).", "houses r1", "terms abbb1", "writing 0 0 0", "has 0 0 0 = 2", "has 0 0 1 = 2", "fines 0 = 1",
            "spent 0 = 0");
    }

    private static void isShort() {
        Script.hold(14, "if it is one that writes without VOWELS", "houses v1;r1;m1", "terms ab1", "ration 0 0", "writing 0 0 0",
            "writing 0 1 0", "writing 0 2 0", "became 0 = 2", "became 1 = 3", "became 2 = 3");
        Script.hold(14, "there is a LETTER in the TERM that is none", "houses v1", "terms a1;e1;aeaeae1;ab1;eh1", "ration 0 0", "ration 4 0",
            "writing 0 0 0", "writing 0 0 1", "writing 0 0 2", "writing 0 0 3", "writing 0 0 4", "became 0 = 3", "became 1 = 3", "became 2 = 3",
            "became 3 = 2", "became 4 = 2", "fines 0 = 3");
        Script.hold(14, "and it has all of these, it is written SHORT", "houses v1", "terms abb1;abbb1", "ration 0 0", "writing 0 0 1",
            "writing 0 0 0", "became 0 = 3", "became 1 = 2", "has 0 0 1 = 0", "ration 1 3", "became 0 = 2", "became 1 = 3");
        Script.hold(14, "it is written SHORT, and these are spent.", "houses v1", "terms aaabbe1", "writing 0 0 0", "became 0 = 2",
            "has 0 0 0 = 2", "has 0 0 1 = 0", "has 0 0 4 = 2", "spent 0 = 0", "spent 1 = 2", "spent 4 = 0", "ration 0 3", "became 0 = 1",
            "has 0 0 0 = 0", "has 0 0 4 = 1");
        Script.hold(14, "Else, if it is one", "houses v1", "terms ab1", "ration 0 1", "writing 0 0 0", "writing 0 0 0", "became 0 = 1",
            "became 1 = 2", "has 0 0 0 = 0", "has 0 0 1 = 0", "spent 0 = 1", "spent 1 = 2");
    }

    /** Each of the eight letters, in a term with one that is there. */
    private static void vowels() {
        for (int letter = 0; letter < 8; letter++) {
            boolean isVowel = letter == 0 || letter == 4;
            char other = letter == 1 ? 'c' : 'b';
            Script.hold(14, "a and e (0, 4) are VOWELS.", "houses v1", "terms " + (char) ('a' + letter) + other + "1", "ration " + letter + " 0",
                "writing 0 0 0", "became 0 = " + (isVowel ? 2 : 3), "meant 0 = 1");
        }
    }

    private static void nothing() {
        Script.hold(14, SUCH, "houses r1;r1;r1;r1;r1;r1;r1", EIGHT_TERMS, "writing 0 7 7", "became 0 = 0", "count 6 = 0", "spent 7 = 0",
            "houses ;r1", "became 0 = 1", "spent 7 = 1", "has 0 7 7 = 1", "ration 7 0", "became 0 = 3", "count 6 = 1");
        Script.hold(14, SUCH, EIGHT_HOUSES, "terms a1;b1;c1;d1;e1;f1;g1", "rations 0", "writing 0 7 7", "became 0 = 0", "count 6 = 0",
            "fines 7 = 0", "terms ;h1", "became 0 = 3", "fines 7 = 1", "rations 1", "became 0 = 1");
        Script.hold(14, SUCH, "writing 0 0 0", "became 0 = 0", "houses r1", "became 0 = 0", "terms b1", "became 0 = 1", "wipe 0", "became 0 = 0",
            "count 6 = 0", "spent 1 = 0");
    }

    private static void fines() {
        Script.range(15, HOUSES, EIGHT_HOUSES, "fines ?", 0, 7);
        Script.range(15, "BAD.", "houses v9", "fines ?", 0, 0);
        Script.hold(15, "BAD.", "fines 0 = BAD", "houses r1;r1", "fines 1 = 0", "fines 2 = BAD");
        Script.hold(15, "FINES.", "houses r1;r1", "terms bbb1", "fines 0 = 0", "12* writing 11 0 0", "fines 0 = 12", "fines 1 = 0", "count 6 = 12",
            "back 0", "fines 0 = 11", "writing 0 1 0", "fines 1 = 1", "count 6 = 12");
        Script.hold(15, "FINES of a HOUSE.", "houses r1;r1", "terms bb1", "writing 0 0 0", "fines 0 = 0", "writing 0 0 0", "fines 0 = 1",
            "writing 1 0 0", "fines 0 = 1", "writing 1 0 0", "fines 0 = 2", "fines 1 = 0");
    }

    private static void spent() {
        Script.range(16, "LETTERS are a to h (0 to 7);", EIGHT_HOUSES, "spent ?", 0, 7);
        Script.range(16, "BAD.", "", "spent ?", 0, 7);
        Script.hold(16, "SPENT.", "spent 0 = 0", "spent 7 = 0", "houses r9", "terms hhhhhh1;aaaaaa1", "ration 7 9", "12* writing 11 0 0",
            "spent 7 = 72", "spent 0 = 0", "back 0", "spent 7 = 66", "writing 0 0 1", "spent 0 = 6", "spent 7 = 66");
        Script.hold(16, "SPENT: how many of a LETTER were, in all.",
            "houses v1;r1", "terms ab1;abbb1", "ration 0 0", "writing 0 0 0", "spent 1 = 1",
            "spent 0 = 0", "writing 5 1 0", "spent 1 = 1", "writing 11 0 1", "spent 1 = 1", "writing 11 0 0", "spent 1 = 2", "writing 0 2 0",
            "writing 0 0 2", "spent 1 = 2");
    }

    private static void bare() {
        Script.range(17, "BAD.", EIGHT_HOUSES, "bare ?", 0, 1);
        Script.range(17, "BARE: the MONTH (what = 0), which (1);", "houses r1 / rations 0", "bare ?", 0, 1);
        Script.hold(17, "which, the least; NONE.", "bare 0 = NONE", "bare 1 = NONE", "rations 0", "bare 0 = NONE", "bare 1 = NONE", "houses r1", "bare 0 = 0",
            "bare 1 = 0", "ration 7 1", "bare 0 = NONE", "bare 1 = NONE");
        Script.hold(17, "BARE: the first MONTH behind which a HOUSE has no LETTER at all;",
            "houses r1", "terms a1", "rations 0", "ration 0 1",
            "writing 11 0 0", "bare 0 = 11", "bare 1 = 0", "writing 0 0 0", "bare 0 = 0", "ration 0 2", "bare 0 = NONE", "ration 0 1",
            "ration 7 1", "bare 0 = NONE", "ration 7 0", "back 0", "bare 0 = 11");
        Script.hold(17, "which (1); NONE.", "bare 0 = NONE", "houses r1", "bare 0 = NONE", "bare 1 = NONE");
        Script.hold(17, "which, the least;", "houses r1;r1;r1;r1;r1;r1;r1;r1", "terms a1", "rations 0", "ration 0 1", "writing 5 7 0",
            "bare 0 = 5", "bare 1 = 7", "writing 5 6 0", "bare 1 = 6", "writing 5 0 0", "bare 1 = 0", "writing 4 7 0", "bare 0 = 4", "bare 1 = 7");
    }

    private static void say() {
        Script.range(18, MONTHS, EIGHT_HOUSES + " / " + EIGHT_TERMS, "say ? 7 8", 0, 11);
        Script.range(18, HOUSES, EIGHT_HOUSES + " / " + EIGHT_TERMS, "say 11 ? 8", 0, 7);
        Script.range(18, "BAD.", "houses r1", "say 0 ? 1", 0, 0);
        Script.range(18, "SAY (MEANING 0 to 9);", "houses r1", "say 0 0 ?", 0, 9);
        Script.hold(18, "BAD.", "say 0 0 0 = BAD", "terms a0", "say 0 0 0 = BAD");
        Script.hold(18, "of like ones the least; NONE.", "houses r1", "say 0 0 0 = NONE");
        Script.hold(18, "SAY (MEANING 0 to 9); NONE.", "houses r1", "say 0 0 0 = NONE", "say 0 0 9 = NONE", "terms abcdef0;b9", "say 0 0 0 = 0", "say 0 0 9 = 1",
            "say 0 0 1 = NONE", "say 0 0 8 = NONE", "rations 0", "say 0 0 0 = NONE");
        Script.hold(18, "the TERM that it could write IN FULL then", "houses r1;v1", "terms bbb1;bb2;ab3", "say 0 0 1 = NONE", "say 0 0 2 = 1",
            "ration 1 3", "say 0 0 1 = 0", "ration 0 0", "say 0 0 3 = NONE", "say 0 1 3 = NONE");
        Script.hold(18, "SAY, of a HOUSE behind a MONTH, what MEANS so", "houses r1;r1", "terms bb1", "writing 11 0 0", "say 11 0 1 = NONE",
            "say 10 0 1 = 0", "say 11 1 1 = 0", "writing 0 0 0", "say 0 0 1 = NONE", "say 1 0 1 = 0");
    }

    private static void sayLike() {
        Script.hold(18, "of the fewest LETTERS", "houses r1", "terms bbccdd1;bbccd1;bbcc1;bbc1;bb1;b1", "say 0 0 1 = 5", "undo 1", "undo 1",
            "undo 1", "say 0 0 1 = 4", "ration 1 1", "say 0 0 1 = NONE", "ration 1 2", "ration 3 1", "say 0 0 1 = 4");
        Script.hold(18, "of the fewest LETTERS", "houses r1", "terms b1;bc1;bcd1;bcdf1;bcdfg1;bcdfgh1", "say 0 0 1 = 0");
        Script.hold(18, "of like ones the least", "houses r1", "terms bbb1;bc1;cb1;cd1;dc1;bd1;db1;bh1", "say 0 0 1 = 1", "ration 1 0",
            "say 0 0 1 = 3", "ration 2 0", "ration 1 1", "say 0 0 1 = 5", "ration 3 0", "say 0 0 1 = 7");
        Script.hold(18, "of like ones the least", "houses r1", "terms h1;h1;h1;h1;h1;h1;h1;h1", "say 11 0 1 = 0");
    }

    private static void most() {
        Script.range(19, MONTHS, EIGHT_HOUSES + " / " + EIGHT_TERMS, "most ? 7 1", 0, 11);
        Script.range(19, HOUSES, EIGHT_HOUSES + " / " + EIGHT_TERMS, "most 11 ? 0", 0, 7);
        Script.range(19, "BAD.", "houses r1", "most 0 ? 1", 0, 0);
        Script.range(19, "MOST: how many (what = 0), as bits (1).", "houses r1", "most 0 0 ?", 0, 1);
        Script.hold(19, "BAD.", "most 0 0 0 = BAD", "terms a0", "most 0 0 1 = BAD");
        Script.hold(19, "MOST: how many (what = 0), as bits (1).", "houses r1", "most 0 0 0 = 0", "most 0 0 1 = 0", EIGHT_TERMS,
            "most 0 0 0 = 8", "most 0 0 1 = 255", "ration 0 0", "most 0 0 0 = 7", "most 0 0 1 = 254", "rations 0", "most 0 0 0 = 0",
            "most 0 0 1 = 0", "ration 7 1", "most 0 0 0 = 1", "most 0 0 1 = 128");
        Script.hold(19, "the set of TERMS, each once, all IN FULL, that is greatest", "houses r9;v9", "terms ab1", "most 0 0 0 = 1",
            "most 0 0 1 = 1", "ration 0 0", "most 0 0 0 = 0", "most 0 1 0 = 0");
        Script.hold(19, "the set of TERMS, each once, all IN FULL, that is greatest", "houses r1", "terms bb1;b1;b1;cc1;c1;c1", "most 0 0 0 = 4",
            "most 0 0 1 = 54", "ration 1 3", "most 0 0 0 = 4", "ration 1 4", "most 0 0 0 = 5", "most 0 0 1 = 55");
        Script.hold(19, "of like ones the least bits: how many; as bits.", "houses r1", "terms b1;b1;b1;b1;b1;b1;b1;b1", "most 0 0 0 = 2", "most 0 0 1 = 3",
            "ration 1 7", "most 0 0 0 = 7", "most 0 0 1 = 127", "ration 1 8", "most 0 0 1 = 255", "ration 1 1", "most 0 0 1 = 1");
        Script.hold(19, "MOST of a HOUSE behind a MONTH", "houses r1;r1", "terms bb1", "writing 11 0 0", "most 11 0 0 = 0", "most 10 0 0 = 1",
            "most 11 1 1 = 1", "writing 0 0 0", "most 0 0 1 = 0", "most 1 0 1 = 1");
    }

    /** Of each house and each letter: it has as many of it as heads, for as many of eight like terms. */
    private static void mostEach() {
        for (int house = 0; house < 8; house++) {
            for (int letter = 0; letter < 8; letter++) {
                String terms = ("terms" + ";x1".repeat(8).replace('x', (char) ('a' + letter))).replaceFirst(";", " ");
                Script.hold(19, "MOST of a HOUSE behind a MONTH", "houses r1;m2;v3;r4;v5;v6;r7;v8", terms, "rations 0", "ration " + letter + " 1",
                    "most 0 " + house + " 0 = " + (house + 1), "most 0 " + house + " 1 = " + ((1 << house + 1) - 1));
            }
        }
    }

    private static void papers() {
        Script.range(20, "8 at most (0 on), with ; between them: 1 to 6 LETTERS", EIGHT_TERMS, "papers ? 0", 0, 7);
        Script.range(20, "BAD.", "terms a1", "papers ? 1", 0, 0);
        Script.range(20, "PAPERS: how many (what = 0), as bits (1);", "terms ab1;ab2", "papers 0 ?", 0, 1);
        Script.hold(20, "BAD.", "papers 0 0 = BAD", "terms ab1;ab", "papers 0 0 = BAD");
        Script.hold(20, "how many; as bits; NONE.", "terms a1;aa1", "papers 0 0 = 1", "papers 0 1 = 2", "papers 1 0 = NONE", "papers 1 1 = NONE");
        Script.hold(20, "NONE.", "terms a1", "papers 0 0 = NONE", "papers 0 1 = NONE", "terms ;b1", "papers 0 0 = NONE", "papers 1 1 = NONE",
            "terms ;ab1", "papers 0 0 = 1", "papers 0 1 = 4", "papers 2 0 = 2", "papers 2 1 = 3");
        Script.hold(20, "PAPERS for a TERM: the fewest others (each once) that have all its LETTERS together",
            "terms hhhhhh1;h1;h1;h1;h1;h1;h1;b1", "papers 0 0 = 6",
            "papers 0 1 = 126", "papers 1 0 = 1", "papers 1 1 = 1", "papers 7 0 = NONE", "papers 7 1 = NONE");
        Script.hold(20, "PAPERS for a TERM: the fewest others (each once) that have all its LETTERS together",
            "terms hhhhhh1;h1;h1;h1;h1;h1;b1", "papers 0 0 = NONE",
            "papers 0 1 = NONE");
        Script.hold(20, "PAPERS for a TERM: the fewest others (each once) that have all its LETTERS together",
            "terms bb1;b1", "papers 0 0 = NONE", "terms ;b1",
            "papers 0 0 = 2", "papers 0 1 = 6", "terms ;bbc1", "papers 0 0 = 1", "papers 0 1 = 8");
        Script.hold(20, "of like ones the least bits: how many;", "terms b1;bc1;bd1;bf1;bg1;bh1;ba1;be1", "papers 0 1 = 2", "papers 1 1 = NONE",
            "papers 7 1 = NONE");
        Script.hold(20, "of like ones the least bits: how many;", "terms gh1;g1;g1;h1;h1", "papers 0 0 = 2", "papers 0 1 = 10", "papers 1 1 = 1",
            "papers 4 1 = 1");
        Script.hold(20, "of like ones the least bits: how many;", "terms g1;g1;h1;h1;h1;h1;h1;gh1", "papers 7 0 = 2", "papers 7 1 = 5",
            "papers 0 1 = 2", "papers 6 1 = 4");
    }

    private static void lend() {
        Script.range(21, "BAD: no such WRITING.", EIGHT_HOUSES + " / " + EIGHT_TERMS + " / 12* writing 11 7 7", "lend ?", 0, 11);
        Script.range(21, "BAD: no such WRITING.", "houses r1 / terms a1 / writing 0 0 0", "lend ?", 0, 0);
        Script.hold(21, "BAD: no such WRITING.", "lend 0 = BAD", "writing 0 0 0", "lend 0 = NONE", "back 0", "lend 0 = BAD");
        Script.hold(21, "LEND;", "houses r1", "terms bb1;bbb1;hhhhhh1;abcdef1", "writing 0 0 0", "lend 0 = 0", "back 0", "writing 0 0 1", "lend 0 = 1",
            "back 0", "writing 11 0 2", "lend 0 = 4", "rations 0", "lend 0 = 6", "ration 7 5", "lend 0 = 1", "ration 7 6", "lend 0 = 0", "back 0",
            "writing 0 0 3", "lend 0 = 6", "rations 1", "lend 0 = 0");
        Script.hold(21, "NONE: there is no such HOUSE, or TERM.", "houses r1;r1;r1;r1;r1;r1;r1", "terms a1;b1;c1;d1;e1;f1;g1", "writing 0 7 0",
            "writing 0 0 7", "writing 0 7 7", "lend 0 = NONE", "lend 1 = NONE", "lend 2 = NONE", "houses ;r1", "lend 0 = 0", "lend 1 = NONE",
            "lend 2 = NONE", "terms ;h1", "lend 1 = 0", "lend 2 = 0");
        Script.hold(21, "NONE.", "writing 0 0 0", "lend 0 = NONE", "houses r1", "lend 0 = NONE", "terms b1", "lend 0 = 0", "wipe 0", "lend 0 = NONE");
    }

    private static void lendInPlace() {
        String place = "LEND for a WRITING, in place of LENDINGS told";
        Script.hold(21, place, "houses m1;r9", "terms bbb1;bbbb1", "writing 0 0 0", "lend 0 = 1", "back 0", "writing 1 0 0", "lend 0 = 0", "back 0",
            "writing 11 0 1", "lend 0 = 1", "2* lending 10 1 0 1", "became 0 = 1", "lend 0 = 1", "writing 10 0 0", "lend 0 = 2", "lend 1 = 0");
        // What LEND leaves out for itself is there again for whoever asks next.
        Script.hold(21, place, "houses m1;r9", "terms bb1;b1", "writing 0 0 0", "writing 2 0 0", "2* lending 0 1 0 1", "2* lending 1 1 0 1",
            "seen 0 0 1 2", "lend 0 = 0", "never = 2", "lend 1 = 0", "got 1 = 4", "lend 0 = 0", "post 7 0 1 = 142", "lend 0 = 0", "has 0 0 1 = 2");
        Script.hold(21, place, "houses r1;r1", "terms hhh1", "writing 0 0 0", "writing 5 0 0", "lending 0 1 0 7", "lend 0 = 1", "ask 0 0 = 7",
            "lend 1 = 1", "ask 0 0 = 7", "became 0 = 1", "became 1 = 3");
        Script.hold(21, "so that it is IN FULL: how many;", "houses v1", "terms ab1", "ration 0 0", "writing 0 0 0", "became 0 = 2", "lend 0 = 1");
        Script.hold(21, "LEND for a WRITING, in place of LENDINGS told", "houses r1;r1", "terms bb1;bbb1", "writing 0 0 0", "writing 0 1 1",
            "lend 0 = 0", "lend 1 = 1", "lending 0 0 1 1", "became 0 = 3", "became 1 = 1", "lend 0 = 0", "lend 1 = 1");
        Script.hold(21, "the fewest LETTERS (of any kinds) that its HOUSE would have to have more", "houses r1;m1", "terms bbcc1;bc1", "writing 0 0 0",
            "writing 0 0 1", "lend 1 = 2", "writing 0 1 0", "writing 1 1 0", "lend 3 = 0", "ration 1 1", "lend 0 = 1", "lend 1 = 0", "lend 2 = 1",
            "lend 3 = 1");
    }
}
