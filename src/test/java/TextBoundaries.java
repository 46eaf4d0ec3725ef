/** The boundary cases of promises 1 to 12: a new object, texts, houses, words, rations, writings, lendings. */
final class TextBoundaries {
    private static final String EIGHT_HOUSES = "houses r1;m2;v3;r4;m5;v6;r7;m8";
    private static final String EIGHT_TERMS = "terms a1;b2;c3;d4;e5;f6;g7;h8";
    private static final String FAULT = "The FAULT of a text is the place of the first byte with which it cannot go on";

    private TextBoundaries() {
    }

    static void holdAll() {
        newObject();
        calls();
        type();
        wipe();
        undo();
        faultsByBytes();
        faultsOfHouses();
        faultsOfTerms();
        asIfEmpty();
        house();
        word();
        ration();
        writing();
        lending();
        back();
        readWhole();
        readMayBe();
        readRefused();
        changes();
    }

    private static void newObject() {
        Script.hold(1, "No HOUSES, no TERMS;", "count 0 = 0", "count 1 = 0", "count 2 = 0", "count 3 = 0",
            "house 0 0 = BAD", "word 0 0 = BAD", "fault 0 = NONE", "fault 1 = NONE", "undo 0 = NOT", "undo 1 = NOT");
        Script.hold(1, "all SHEETS are LOST.", "lose 0 = NULL", "lose 1 = NULL", "lose 2 = NULL", "lose 3 = NULL");
        Script.hold(1, "WRITINGS, 12 at most (0 on)", "count 4 = 0", "back 0 = NOT", "became 0 = BAD", "never = 0");
        Script.hold(1, "LENDINGS, 8 at most (0 on)", "count 5 = 0", "back 1 = NOT");
        Script.hold(1, "SEEN, 8 at most", "count 7 = 0", "forget = 0");
        Script.hold(1, "(0 to 9; 2 at first)", "ration 0 0 = 2", "ration 1 0 = 2", "ration 2 0 = 2", "ration 3 0 = 2",
            "ration 4 0 = 2", "ration 5 0 = 2", "ration 6 0 = 2", "ration 7 0 = 2");
        Script.hold(1, "STOCKS of HOUSES are empty at first.", "rations 0", "houses m9", "has 0 0 NONE = 0",
            "ration 7 9", "has 0 0 7 = 81", "has 0 0 NONE = 81");
    }

    /** The last call of those that are promised still answers as the first would. */
    private static void calls() {
        Script.quick(1, "An object is used for at most 512 calls after it has been made;", EIGHT_HOUSES, EIGHT_TERMS,
            "12* writing 11 7 7", "8* lending 11 7 0 7", "8* seen 11 7 7 8", "436* has 11 7 7 = 11", "has 11 7 7 = 11",
            "digest = CALLS");
        Script.quick(1, "An object is used for at most 512 calls after it has been made;", "511* type 0 256 = BAD", "type 0 255 = 1");
        OunceLetters x = Check.of("m9", "abc1");
        for (int i = 0; i < 2000; i++) {
            x.writing(i % 13, 0, 0);
        }
        x.digest();
        Script.note(1, "what later calls answer is free.", "they do not throw", true);
    }

    private static void type() {
        for (int text = 0; text < 2; text++) {
            Script.range(2, "A byte (0 to 255) comes behind a text", "", "type " + text + " ?", 0, 255);
        }
        Script.range(2, "BAD;", "", "type ? 97", 0, 1);
        Script.hold(2, "A byte (0 to 255) comes behind a text: how many.", "type 0 0 = 1", "type 0 255 = 2", "type 1 255 = 1", "type 1 0 = 2");
        Script.hold(2, "HOUSES are a text of up to 23 bytes (text 0)", "22* type 0 'r'", "type 0 'r' = 23", "type 0 'r' = FULL",
            "count 2 = 23", "type 1 'a' = 1");
        Script.hold(2, "TERMS are a text of up to 55 bytes (text 1)", "54* type 1 'a'", "type 1 'a' = 55", "type 1 'a' = FULL",
            "count 3 = 55", "type 0 'r' = 1");
        Script.hold(2, "FULL.", EIGHT_HOUSES, "type 0 59 = FULL", "fault 0 = NONE", "count 0 = 8", "undo 0 = 22",
            "type 0 '9' = 23", "house 7 1 = 9", "type 0 '9' = FULL", "wipe 0 = 23", "type 0 '9' = 1");
        Script.hold(2, "BAD -2 (a number not as told, no such thing), NULL, NOT -3 (as told), FULL -4", "23* type 0 'r'",
            "type 0 -1 = BAD", "type 0 256 = BAD", "type 0 0 = FULL", "type 0 255 = FULL", "type 2 0 = BAD");
    }

    private static void wipe() {
        Script.hold(3, "A text is empty: how many bytes it had.", "wipe 0 = 0", "wipe 1 = 0", "type 0 'r'", "wipe 0 = 1",
            "count 2 = 0", "fault 0 = NONE", "23* type 0 255", "fault 0 = 0", "wipe 0 = 23", "fault 0 = NONE", "wipe 0 = 0");
        Script.hold(3, "A text is empty: how many bytes it had.", EIGHT_HOUSES, "55* type 1 'a'", "wipe 1 = 55", "count 3 = 0",
            "fault 1 = NONE", "count 0 = 8", "wipe 0 = 23", "count 0 = 0", "type 1 'a' = 1");
        Script.range(3, "BAD.", EIGHT_HOUSES + " / " + EIGHT_TERMS, "wipe ?", 0, 1);
    }

    private static void undo() {
        Script.hold(4, "The last byte of a text is undone: how many are left.", EIGHT_HOUSES, "undo 0 = 22", "fault 0 = 22",
            "undo 0 = 21", "undo 0 = 20", "count 0 = 7", "type 0 59 = 21");
        Script.hold(4, "The last byte of a text is undone: how many are left.", "55* type 1 'a'", "undo 1 = 54", "type 1 'a' = 55",
            "type 1 'a' = FULL");
        Script.hold(4, "The last byte of a text is undone: how many are left.", "houses r1x", "fault 0 = 2", "undo 0 = 2",
            "fault 0 = NONE", "count 0 = 1");
        Script.hold(4, "NOT: it is empty.", "undo 0 = NOT", "undo 1 = NOT", "type 0 'r' = 1", "undo 1 = NOT", "undo 0 = 0",
            "undo 0 = NOT", "type 1 'a' = 1", "undo 0 = NOT", "wipe 1 = 1", "undo 1 = NOT");
        Script.range(4, "BAD;", "houses r1 / terms a1", "undo ?", 0, 1);
        Script.range(4, "in the order told at each act", "houses r1", "undo ?", 0, 1);
    }

    private static void fault(String sentence, int text, String bytes, int want) {
        Script.quick(5, sentence, (text == 0 ? "houses " : "terms ") + bytes, "fault " + text + " = " + want,
            "fault " + (1 - text) + " = NONE");
    }

    /** Each of the 256 bytes, at each kind of place. */
    private static void faultsByBytes() {
        for (int b = 0; b < 256; b++) {
            boolean isKind = b == 'r' || b == 'm' || b == 'v';
            boolean isHeads = b >= '1' && b <= '9';
            boolean isLetter = b >= 'a' && b <= 'h';
            boolean isMeaning = b >= '0' && b <= '9';
            boolean isBetween = b == ';';
            String house = "r (plain), m (a miser) or v (one that writes without VOWELS), and a figure, HEADS (1 to 9).";
            byteAt(house, "", 0, b, isKind ? 1 : 0);
            byteAt(house, "m", 0, b, isHeads ? -1 : 1);
            byteAt("with ; between them: r (plain)", "v9", 0, b, isBetween ? 3 : 2);
            byteAt(house, "v9;", 0, b, isKind ? 4 : 3);
            String term = "1 to 6 LETTERS, and a figure, its MEANING (0 to 9).";
            byteAt(term, "", 1, b, isLetter ? 1 : 0);
            byteAt(term, "h", 1, b, isLetter ? 2 : isMeaning ? -1 : 1);
            byteAt("LETTERS are a to h (0 to 7);", "a0;", 1, b, isLetter ? 4 : 3);
            byteAt("with ; between them: 1 to 6 LETTERS", "a0", 1, b, isBetween ? 3 : 2);
            byteAt("here also of a seventh LETTER", "abcdeh", 1, b, isMeaning ? -1 : 6);
            byteAt("of the first byte of a ninth.", "a1;b2;c3;d4;e5;f6;g7;h8;", 1, b, 24);
        }
    }

    private static void byteAt(String sentence, String ahead, int text, int b, int want) {
        String first = ahead.isEmpty() ? "count 0" : (text == 0 ? "houses " : "terms ") + ahead;
        Script.quick(5, sentence, first, "type " + text + " " + b, "fault " + text + " = " + want);
    }

    private static void faultsOfHouses() {
        Script.hold(5, "an empty one is well", "fault 0 = NONE", "fault 1 = NONE", "type 0 'x'", "fault 0 = 0", "undo 0 = 0", "fault 0 = NONE");
        Script.hold(5, "The FAULT of a text; NONE.", EIGHT_HOUSES, EIGHT_TERMS, "fault 0 = NONE", "fault 1 = NONE");
        String notEnded = "of one that is not ended, its end";
        fault(notEnded, 0, "r", 1);
        fault(notEnded, 0, "r1;", 3);
        fault(notEnded, 0, "r1;m", 4);
        fault(notEnded, 0, "r1;m2;v3;r4;m5;v6;r7;", 21);
        fault(notEnded, 0, "r1;m2;v3;r4;m5;v6;r7;m", 22);
        fault(FAULT, 0, "x", 0);
        fault(FAULT, 0, "xyz;r", 0);
        fault(FAULT, 0, ";", 0);
        fault(FAULT, 0, ";r1", 0);
        fault(FAULT, 0, "r0", 1);
        fault(FAULT, 0, "r0;m0", 1);
        fault(FAULT, 0, "r1;;", 3);
        fault(FAULT, 0, "r11", 2);
        fault(FAULT, 0, "rm1", 1);
        fault(FAULT, 0, "r1;m2;v3;r4;m5;v6;r7;m0", 22);
        fault(FAULT, 0, "r1;m2;v3;r4;m5;v6;r7;x8", 21);
        fault(FAULT, 0, "r1;m2;v3;r4;m5;v6;r7m8;", 20);
        Script.hold(5, "HOUSES are a text of up to 23 bytes (text 0), 8 at most (0 on)", EIGHT_HOUSES, "fault 0 = NONE", "count 0 = 8",
            "type 0 59 = FULL", "fault 0 = NONE");
        Script.range(5, "BAD.", "houses x / terms x", "fault ?", 0, 1);
    }

    private static void faultsOfTerms() {
        String notEnded = "of one that is not ended, its end";
        fault(notEnded, 1, "a", 1);
        fault(notEnded, 1, "abcdef", 6);
        fault(notEnded, 1, "a0;", 3);
        fault(notEnded, 1, "a0;b", 4);
        fault(notEnded, 1, "a1;b2;c3;d4;e5;f6;g7;h8;", 24);
        fault("1 to 6 LETTERS", 1, "a0", -1);
        fault("1 to 6 LETTERS", 1, "abcdef0", -1);
        fault("1 to 6 LETTERS", 1, "0", 0);
        fault("1 to 6 LETTERS", 1, "a0;0", 3);
        fault("here also of a seventh LETTER", 1, "abcdefg", 6);
        fault("here also of a seventh LETTER", 1, "hhhhhhh0", 6);
        fault("here also of a seventh LETTER", 1, "h0;aaaaaaa", 9);
        fault("here also of a seventh LETTER", 1, "aaaaaa0;bbbbbb0;cccccc0;dddddd0;eeeeee0;ffffff0;ggggggg", 54);
        fault("of the first byte of a ninth.", 1, "a1;b2;c3;d4;e5;f6;g7;h8", -1);
        fault("of the first byte of a ninth.", 1, "a1;b2;c3;d4;e5;f6;g7;h8;a", 24);
        fault("of the first byte of a ninth.", 1, "a1;b2;c3;d4;e5;f6;g7;h8;a1", 24);
        fault("of the first byte of a ninth.", 1, "a1;b2;c3;d4;e5;f6;g7;h8;a1;b2", 24);
        fault("of the first byte of a ninth.", 1, "aaaaa1;bbbbb2;ccccc3;ddddd4;eeeee5;fffff6;ggggg7;hhhh8;", 55);
        fault(FAULT, 1, "a;b;", 1);
        fault(FAULT, 1, "a00", 2);
        fault(FAULT, 1, "a0;;", 3);
        fault(FAULT, 1, "i0;0", 0);
        Script.hold(5, "TERMS are a text of up to 55 bytes (text 1), 8 at most (0 on)",
            "terms aaaaa1;bbbbb2;ccccc3;ddddd4;eeeee5;fffff6;ggggg7;hhhhh8", "count 3 = 55", "fault 1 = NONE", "count 1 = 8",
            "word 7 7 = 5", "type 1 59 = FULL", "undo 1 = 54", "fault 1 = 54", "count 1 = 0");
    }

    private static void asIfEmpty() {
        String sentence = "With a FAULT a text is as if it was empty.";
        Script.hold(5, sentence, "houses r1;m2", "terms b1;c2", "writing 0 0 0", "became 0 = 1", "type 0 59", "fault 0 = 6",
            "count 0 = 0", "count 2 = 6", "house 0 0 = BAD", "has 0 0 0 = BAD", "became 0 = 0", "spent 1 = 0", "lend 0 = NONE",
            "count 1 = 2", "undo 0 = 5", "count 0 = 2", "became 0 = 1");
        Script.hold(5, sentence, "houses r1", "terms bbb1;c2", "writing 0 0 0", "fines 0 = 1", "type 1 'x'", "fault 1 = 7",
            "count 1 = 0", "count 3 = 8", "word 0 0 = BAD", "papers 0 0 = BAD", "meant 0 = BAD", "became 0 = 0", "fines 0 = 0",
            "lend 0 = NONE", "say 0 0 1 = NONE", "most 0 0 0 = 0", "count 0 = 1", "undo 1 = 7", "count 1 = 2", "fines 0 = 1");
    }

    private static void house() {
        String what = "Its kind (what = 0: 0 r, 1 m, 2 v), HEADS (1) of a HOUSE.";
        Script.hold(6, what, "houses r1;m5;v9", "house 0 0 = 0", "house 1 0 = 1", "house 2 0 = 2", "house 0 1 = 1", "house 1 1 = 5",
            "house 2 1 = 9");
        Script.range(6, what, "houses r1", "house 0 ?", 0, 1);
        Script.hold(6, "8 at most (0 on)", EIGHT_HOUSES, "house 0 1 = 1", "house 7 0 = 1", "house 7 1 = 8");
        Script.range(6, "8 at most (0 on)", EIGHT_HOUSES, "house ? 0", 0, 7);
        Script.range(6, "BAD.", "houses v9", "house ? 1", 0, 0);
        Script.hold(6, "BAD.", "house 0 0 = BAD", "houses r1;m2", "house 1 1 = 2", "undo 0 = 4", "house 0 1 = BAD", "wipe 0 = 4",
            "house 0 0 = BAD", "houses r1", "house 1 0 = BAD");
    }

    private static void word() {
        String what = "How many of a LETTER (0 to 7), MEANING (8), how many LETTERS (9) a TERM has.";
        Script.hold(7, what, "terms a0;hhhhhh9", "word 0 0 = 1", "word 0 7 = 0", "word 0 8 = 0", "word 0 9 = 1", "word 1 0 = 0",
            "word 1 7 = 6", "word 1 8 = 9", "word 1 9 = 6");
        Script.hold(7, "LETTERS are a to h (0 to 7);", "terms abcdef0;gh0", "word 0 0 = 1", "word 0 1 = 1", "word 0 2 = 1", "word 0 3 = 1",
            "word 0 4 = 1", "word 0 5 = 1", "word 0 6 = 0", "word 0 7 = 0", "word 1 5 = 0", "word 1 6 = 1", "word 1 7 = 1");
        Script.range(7, what, "terms a0", "word 0 ?", 0, 9);
        Script.hold(7, "8 at most (0 on), with ; between them: 1 to 6 LETTERS", EIGHT_TERMS, "word 0 8 = 1", "word 7 8 = 8", "word 7 7 = 1");
        Script.range(7, "8 at most (0 on), with ; between them: 1 to 6 LETTERS", EIGHT_TERMS, "word ? 9", 0, 7);
        Script.range(7, "BAD.", "terms h9", "word ? 0", 0, 0);
        Script.hold(7, "BAD.", "word 0 0 = BAD", "terms hh9", "word 0 7 = 2", "undo 1 = 2", "word 0 7 = BAD", "wipe 1 = 2", "terms h0",
            "word 0 7 = 1", "word 0 9 = 1", "word 0 8 = 0", "word 1 0 = BAD");
    }

    private static void ration() {
        for (int letter = 0; letter < 8; letter++) {
            Script.hold(8, "RATION of a LETTER: what it was.", "houses r1", "ration " + letter + " 0 = 2", "has 0 0 " + letter + " = 0",
                "has 0 0 NONE = 14", "ration " + letter + " 9 = 0", "has 0 0 " + letter + " = 9", "has 0 0 NONE = 23",
                "ration " + letter + " 10 = BAD", "ration " + letter + " -1 = BAD", "ration " + letter + " 9 = 9");
        }
        Script.range(8, "(0 to 9; 2 at first)", "houses m9", "ration 7 ?", 0, 9);
        Script.range(8, "(0 to 9; 2 at first)", "houses m9", "ration 0 ?", 0, 9);
        Script.range(8, "BAD.", "houses m9", "ration ? 9", 0, 7);
        Script.hold(8, "RATION: of each LETTER so many a HEAD",
            "houses r1;r9", "ration 0 9", "has 0 0 0 = 9", "has 0 1 0 = 81", "ration 0 0 = 9",
            "has 0 1 0 = 0", "ration 0 1 = 0", "has 0 1 0 = 9");
    }

    private static void writing() {
        Script.range(9, "MONTHS are 0 to 11.", "", "writing ? 0 0", 0, 11);
        Script.range(9, "in a MONTH a HOUSE (0 to 7) is to write a TERM (0 to 7).", "", "writing 0 ? 0", 0, 7);
        Script.range(9, "in a MONTH a HOUSE (0 to 7) is to write a TERM (0 to 7).", "", "writing 0 0 ?", 0, 7);
        Script.range(9, "BAD;", EIGHT_HOUSES + " / " + EIGHT_TERMS + " / writing 0 0 0", "writing ? 7 7", 0, 11);
        Script.hold(9, "A WRITING more: how many.", "writing 0 0 0 = 1", "writing 11 7 7 = 2", "writing 0 0 0 = 3", "count 4 = 3");
        Script.hold(9, "WRITINGS, 12 at most (0 on)", EIGHT_HOUSES, EIGHT_TERMS, "11* writing 0 1 1", "writing 11 7 7 = 12",
            "writing 0 0 0 = FULL", "count 4 = 12", "became 11 = 1", "has 0 0 0 = 2");
        Script.hold(9, "FULL.", "12* writing 0 0 0", "writing 0 0 0 = FULL", "back 0 = 11", "writing 0 0 0 = 12", "writing 0 0 0 = FULL");
        Script.hold(9, "Refusals, the first that fits, in the order told at each act", "12* writing 0 0 0", "writing 12 0 0 = BAD",
            "writing -1 0 0 = BAD", "writing 0 8 0 = BAD", "writing 0 -1 0 = BAD", "writing 0 0 8 = BAD", "writing 0 0 -1 = BAD",
            "writing 11 7 7 = FULL");
    }

    private static void lending() {
        Script.range(10, "MONTHS are 0 to 11.", "", "lending ? 0 1 0", 0, 11);
        Script.range(10, "to another one (0 to 7 each).", "", "lending 0 ? 4 0", 0, 7);
        Script.range(10, "to another one (0 to 7 each).", "", "lending 0 4 ? 0", 0, 7);
        Script.range(10, "LETTERS are a to h (0 to 7);", "", "lending 0 0 1 ?", 0, 7);
        for (int house = 0; house < 8; house++) {
            Script.hold(10, "BAD: also to itself;", EIGHT_HOUSES, "lending 0 " + house + " " + house + " 0 = BAD", "count 5 = 0",
                "lending 0 " + house + " " + (house + 1) % 8 + " 0 = 1");
        }
        Script.hold(10, "BAD: also to itself;", "lending 0 8 8 0 = BAD", "lending 0 -1 -1 0 = BAD", "lending 0 7 8 0 = BAD");
        Script.hold(10, "A LENDING more: how many.", "lending 0 0 1 0 = 1", "lending 0 1 0 0 = 2", "lending 11 7 6 7 = 3", "count 5 = 3");
        Script.hold(10, "LENDINGS, 8 at most (0 on)", "houses r9;r1", "7* lending 11 0 1 7", "lending 11 0 1 7 = 8", "has 11 0 7 = 10",
            "lending 11 0 1 7 = FULL", "count 5 = 8", "has 11 0 7 = 10", "has 11 1 7 = 10");
        Script.hold(10, "FULL.", "8* lending 0 0 1 0", "lending 0 0 1 0 = FULL", "back 1 = 7", "lending 0 0 1 0 = 8", "lending 0 0 1 0 = FULL");
        Script.hold(10, "Refusals, the first that fits, in the order told at each act", "8* lending 0 0 1 0", "lending 12 0 1 0 = BAD",
            "lending 0 8 1 0 = BAD", "lending 0 0 8 0 = BAD", "lending 0 0 1 8 = BAD", "lending 0 1 1 0 = BAD", "lending 11 7 6 7 = FULL");
    }

    private static void back() {
        Script.range(11, "BAD;", "writing 0 0 0 / lending 0 0 1 0", "back ?", 0, 1);
        Script.range(11, "BAD;", "", "back ?", 0, 1);
        Script.hold(11, "The last WRITING (what = 0), LENDING (1) is undone: how many are left.", "houses r9;r9", "terms b1;c1",
            "11* writing 0 0 0", "writing 0 0 1", "has 0 0 2 = 17", "back 0 = 11", "has 0 0 2 = 18", "has 0 0 1 = 7", "back 0 = 10",
            "has 0 0 1 = 8", "became 10 = BAD", "became 9 = 1");
        Script.hold(11, "The last WRITING (what = 0), LENDING (1) is undone: how many are left.", "houses r9;r9", "7* lending 0 0 1 0",
            "lending 0 0 1 1", "has 0 0 1 = 17", "back 1 = 7", "has 0 0 1 = 18", "has 0 0 0 = 11", "back 1 = 6", "has 0 0 0 = 12");
        Script.hold(11, "NOT: there is none.", "back 0 = NOT", "back 1 = NOT", "writing 0 0 0 = 1", "back 1 = NOT", "back 0 = 0",
            "back 0 = NOT", "lending 0 0 1 0 = 1", "back 0 = NOT", "back 1 = 0", "back 1 = NOT");
    }

    private static final String READ = "its items, three for each, as many as are whole, as long as each may be: how many.";

    private static void readWhole() {
        int[] whole = {0, 0, 0, 1, 1, 1, 2, 2, 2, 3};
        for (int n = 0; n < whole.length; n++) {
            Script.hold(12, READ, "sheet 0 0 " + n, "read 0 = " + whole[n], "count 4 = " + whole[n], "lose 0 = " + n);
        }
        Script.hold(12, READ, "sheet 3 2 35", "read 3 = 11", "count 4 = 11");
        Script.hold(12, READ, "sheet 3 2 36", "read 3 = 12", "count 4 = 12", "read 3 = 0", "count 4 = 12");
        Script.hold(12, READ, "sheet 3 1 60", "read 3 = 12", "count 4 = 12", "writing 0 0 0 = FULL");
        Script.hold(12, READ, "11* writing 0 0 0", "sheet 3 1 60", "read 3 = 1", "count 4 = 12");
        Script.hold(12, READ, "writing 0 0 0", "sheet 1 0 6", "read 1 = 2", "count 4 = 3", "read 1 = 2", "count 4 = 5");
        Script.hold(12, "WRITINGS from a SHEET", EIGHT_HOUSES, EIGHT_TERMS, "items 2 0 11 7 7 0 0 0", "read 2 = 2", "became 0 = 1",
            "became 1 = 1", "spent 7 = 1", "spent 0 = 1", "has 11 7 7 = 30", "has 0 0 0 = 1", "get 2 0 0 = 11", "lose 2 = 6");
    }

    private static void readMayBe() {
        for (int form = 0; form < 3; form++) {
            String sheet = "items 0 " + form + " ";
            Script.hold(12, READ, sheet + "11 7 7", "read 0 = 1");
            Script.hold(12, READ, sheet + "0 0 0 12 0 0 0 0 0", "read 0 = 1", "count 4 = 1");
            Script.hold(12, READ, sheet + "0 0 0 -1 0 0 0 0 0", "read 0 = 1", "count 4 = 1");
            Script.hold(12, READ, sheet + "0 0 0 0 8 0 0 0 0", "read 0 = 1", "count 4 = 1");
            Script.hold(12, READ, sheet + "0 0 0 0 -1 0 0 0 0", "read 0 = 1", "count 4 = 1");
            Script.hold(12, READ, sheet + "0 0 0 0 0 8 0 0 0", "read 0 = 1", "count 4 = 1");
            Script.hold(12, READ, sheet + "0 0 0 0 0 -1 0 0 0", "read 0 = 1", "count 4 = 1");
            Script.hold(12, READ, sheet + "12 0 0 0 0 0", "read 0 = 0", "count 4 = 0");
        }
        Script.hold(12, READ, "items 0 0 256 263 519", "read 0 = 1", "houses r1;r1;r1;r1;r1;r1;r1;r1", EIGHT_TERMS, "has 0 7 7 = 1");
        Script.hold(12, READ, "items 0 1 256 0 0", "read 0 = 0", "items 0 1 65536 0 0", "read 0 = 1");
        Script.hold(12, READ, "items 0 2 65536 0 0", "read 0 = 0", "items 0 2 MIN 0 0", "read 0 = 0", "items 0 2 0 MAX 0", "read 0 = 0");
    }

    private static void readRefused() {
        Script.range(12, "BAD;", "sheet 0 0 3 / sheet 3 0 3", "read ?", 0, 3);
        Script.range(12, "BAD;", "12* writing 0 0 0", "read ?", 0, 3);
        for (int s = 0; s < 4; s++) {
            Script.hold(12, "NULL.", "read " + s + " = NULL", "count 8 = 1", "sheet " + s + " 1 3", "read " + s + " = 1", "lose " + s + " = 3",
                "read " + s + " = NULL", "count 4 = 1");
        }
        Script.hold(12, "NULL.", "12* writing 0 0 0", "read 0 = NULL", "count 4 = 12");
    }

    /** Whatever was asked before, each change shows in all that is asked behind it. */
    private static void changes() {
        String[] state = {"houses m1;r1", "terms bbb1;b1", "3* writing 3 0 0", "3* writing 4 1 0", "3* lending 4 0 1 1", "items 0 0 3 0 0 4 1 0"};
        String[][] changes = {
            {"2", "comes behind a text", "houses ;v9"}, {"3", "A text is empty", "wipe 0"}, {"4", "The last byte of a text is undone", "3* undo 0"},
            {"8", "RATION of a LETTER", "ration 1 3"}, {"9", "A WRITING more", "writing 3 0 0"}, {"10", "A LENDING more", "lending 4 0 1 1"},
            {"11", "The last WRITING (what = 0)", "back 0"}, {"11", "LENDING (1) is undone", "back 1"}, {"12", "WRITINGS from a SHEET", "read 0"}};
        for (String[] change : changes) {
            String[] steps = java.util.Arrays.copyOf(state, state.length + 8);
            String[] more = {"digest = CALLS", change[2], "digest = CALLS", "wipe 0", "digest = CALLS", "houses v2;m1", "ration 0 0", "digest = CALLS"};
            System.arraycopy(more, 0, steps, state.length, more.length);
            Script.hold(Integer.parseInt(change[0]), change[1], steps);
        }
    }
}
