/** The boundary cases of promises 22 to 29: meant, seen, never, got, ask, censor, post. */
final class ChanceBoundaries {
    private static final String EIGHT_HOUSES = "houses r1;m2;v3;r4;m5;v6;r7;m8";
    private static final String EIGHT_TERMS = "terms a1;b2;c3;d4;e5;f6;g7;h8";
    private static final String MONTHS = "MONTHS are 0 to 11.";
    private static final String HOUSES = "8 at most (0 on), with ; between them: r (plain)";
    /** In each month one b is written by the one house, which has two. */
    private static final String A_YEAR = "houses r1 / terms b1 / writing 0 0 0 / writing 1 0 0 / writing 2 0 0 / writing 3 0 0 / writing 4 0 0"
        + " / writing 5 0 0 / writing 6 0 0 / writing 7 0 0 / writing 8 0 0 / writing 9 0 0 / writing 10 0 0 / writing 11 0 0";

    private ChanceBoundaries() {
    }

    static void holdAll() {
        meant();
        seen();
        forget();
        never();
        neverHouses();
        got();
        ask();
        askEach();
        censorRefused();
        censorLowest();
        censorOthers();
        censorEach();
        postRefused();
        postLots();
        postMonths();
    }

    private static String[] behind(String state, String... more) {
        return (state + " / " + String.join(" / ", more)).split(" / ");
    }

    private static void meant() {
        Script.range(22, "8 at most (0 on), with ; between them: 1 to 6 LETTERS", EIGHT_TERMS, "meant ?", 0, 7);
        Script.range(22, "BAD.", "terms b1", "meant ?", 0, 0);
        Script.hold(22, "BAD.", "meant 0 = BAD", "terms b", "meant 0 = BAD", "type 1 '1'", "meant 0 = 1");
        Script.hold(22, "MEANT by a TERM that is written SHORT: TERMS with a LETTER that is no VOWEL that read so without VOWELS, as bits",
            "terms b1;ab2;ba3;eb4;be5;aba6;aaaaab7;beeeee8",
            "meant 0 = 255", "meant 7 = 255", "meant 6 = 255");
        Script.hold(22, "(of one without such a LETTER: none).", "terms a1;e1;ae1;aeaeae1;h1", "meant 0 = 0", "meant 1 = 0", "meant 2 = 0",
            "meant 3 = 0", "meant 4 = 16");
        Script.hold(22, "MEANT, as bits.", "terms b1;bb1;c1;bc1;cb1;abc1;bcb1;h1", "meant 0 = 1", "meant 1 = 2", "meant 2 = 4", "meant 3 = 40",
            "meant 4 = 16", "meant 5 = 40", "meant 6 = 64", "meant 7 = 128");
        Script.hold(22, "MEANT, as bits.", "terms bcdfgh1;bcdfhg1;ccdfgh1;bcdfg1", "meant 0 = 1", "meant 1 = 2", "meant 2 = 4", "meant 3 = 8");
    }

    private static void seen() {
        Script.range(23, MONTHS, "", "seen ? 0 0 0", 0, 11);
        Script.range(23, "behind a MONTH a HOUSE (0 to 7) had so many (0 to 99) of a LETTER.", "", "seen 0 ? 0 0", 0, 7);
        Script.range(23, "LETTERS are a to h (0 to 7);", "", "seen 0 0 ? 0", 0, 7);
        Script.range(23, "behind a MONTH a HOUSE (0 to 7) had so many (0 to 99) of a LETTER.", "", "seen 0 0 0 ?", 0, 99);
        Script.range(23, "BAD;", EIGHT_HOUSES + " / seen 0 0 0 0", "seen 11 7 ? 99", 0, 7);
        Script.hold(23, "SEEN more: how many.", "seen 0 0 0 0 = 1", "seen 11 7 7 99 = 2", "seen 0 0 0 0 = 3", "count 7 = 3");
        Script.hold(23, "SEEN, 8 at most", "houses r1", "7* seen 11 0 7 2", "seen 11 0 7 2 = 8", "seen 11 0 7 3 = FULL", "count 7 = 8", "got 0 = 1023");
        Script.hold(23, "FULL.", "8* seen 11 7 7 99", "seen 0 0 0 0 = FULL", "forget = 8", "seen 0 0 0 0 = 1");
        Script.hold(23, "Refusals, the first that fits, in the order told at each act", "8* seen 0 0 0 0", "seen 12 0 0 0 = BAD", "seen 0 8 0 0 = BAD",
            "seen 0 0 8 0 = BAD", "seen 0 0 0 100 = BAD", "seen 0 0 0 -1 = BAD", "seen 11 7 7 99 = FULL");
    }

    private static void forget() {
        Script.hold(24, "All SEEN are forgotten: how many.", "forget = 0", "seen 0 0 0 0", "forget = 1", "forget = 0", "count 7 = 0",
            "8* seen 0 0 0 1", "houses r1", "got 0 = 2", "forget = 8", "count 7 = 0", "got 0 = 1023", "forget = 0", "seen 0 0 0 0 = 1");
    }

    private static void never() {
        Script.hold(25, "NEVER, as bits.", "never = 0", "writing 0 0 0", "never = 1", "10* writing 0 0 0", "never = 2047", "writing 11 7 7",
            "never = 4095", "back 0", "never = 2047");
        Script.hold(25, "NEVER: WRITINGS each of which, had it alone not been, makes all that was SEEN come out so, as bits",
            behind(A_YEAR, "never = 4095", "seen 11 0 1 2", "never = 2048",
            "forget", "seen 0 0 1 2", "never = 1", "forget", "seen 11 0 1 1", "never = 2047", "seen 0 0 1 1", "never = 2046", "seen 5 0 1 2",
            "never = 32", "seen 6 0 1 2", "never = 0", "forget", "never = 4095", "count 4 = 12"));
        Script.hold(25, "NEVER: WRITINGS each of which, had it alone not been, makes all that was SEEN come out so, as bits",
            "houses r1", "terms bb1;b1", "writing 0 0 0", "writing 0 0 1",
            "seen 0 0 1 1", "never = 1", "forget", "seen 0 0 1 0", "never = 2", "forget", "seen 0 0 1 2", "never = 0");
        Script.hold(25, "had so many (0 to 99)", "houses m7;r9", "terms b1", "writing 0 1 0", "ration 0 7", "ration 7 0", "lending 8 1 0 0",
            "lending 8 1 0 0", "has 8 0 0 = 99", "seen 8 0 0 99", "never = 1", "seen 11 0 7 0", "never = 1", "seen 8 0 0 98", "never = 0");
    }

    private static void neverHouses() {
        Script.hold(25, "(of a HOUSE that there is not: never).", "houses r1;r1;r1;r1;r1;r1;r1", "rations 0", "writing 0 0 0", "seen 0 7 0 0", "never = 0",
            "got 7 = 0", "houses ;r1", "never = 1", "got 7 = 1023", "undo 0", "never = 0", "got 7 = 0", "wipe 0", "never = 0", "forget", "never = 1",
            "got 7 = 1023");
        Script.hold(25, "(of a HOUSE that there is not: never).", EIGHT_HOUSES, EIGHT_TERMS, "writing 3 7 7", "seen 3 7 7 30", "never = 1", "seen 3 0 0 2",
            "never = 1", "wipe 0", "never = 0");
    }

    private static void got() {
        Script.range(26, "LETTERS are a to h (0 to 7);", "houses r1 / seen 0 0 0 2", "got ?", 0, 7);
        Script.range(26, "BAD.", "", "got ?", 0, 7);
        Script.hold(26, "GOT of a LETTER: RATIONS (0 to 9) of it in place of its own, likewise, as bits.",
            "houses r1", "seen 0 0 0 0", "got 0 = 1", "forget", "seen 0 0 0 9", "got 0 = 512",
            "ration 0 5", "got 0 = 512", "forget", "seen 0 0 0 10", "got 0 = 0", "ration 0 9 = 5");
        Script.hold(26, "GOT of a LETTER: RATIONS (0 to 9) of it in place of its own, likewise, as bits.",
            "houses r9", "seen 11 0 7 81", "got 7 = 512", "got 0 = 0", "forget", "seen 11 0 7 80",
            "got 7 = 0", "forget", "seen 11 0 7 18", "got 7 = 4", "got 0 = 1023", "got 6 = 1023");
        Script.hold(26, "GOT, as bits.", "got 0 = 1023", "got 7 = 1023", "houses r1", "terms b1;bbb1", "writing 0 0 0", "writing 0 0 1", "seen 0 0 1 0",
            "got 1 = 19", "forget", "seen 0 0 1 5", "got 1 = 512", "forget", "seen 0 0 1 2", "got 1 = 72", "seen 0 0 1 3", "got 1 = 0");
    }

    private static void ask() {
        Script.range(27, MONTHS, EIGHT_HOUSES, "ask ? 7", 0, 11);
        Script.range(27, HOUSES, EIGHT_HOUSES, "ask 11 ?", 0, 7);
        Script.range(27, "BAD.", "houses r1", "ask 0 ?", 0, 0);
        Script.hold(27, "BAD.", "ask 0 0 = BAD", "houses r1", "ask 0 0 = 0", "type 0 59", "ask 0 0 = BAD");
        Script.hold(27, "the LETTER of which the greatest number of those WRITINGS by which it has alike many is least", "houses r1;r1", "terms h1",
            "ask 0 0 = 0", "writing 0 0 0", "ask 0 0 = 0", "writing 11 0 0", "ask 0 0 = 7", "ask 11 0 = 7", "ask 5 0 = 0", "ask 0 1 = 0",
            "seen 0 0 7 2", "ask 0 0 = 0", "forget", "seen 0 0 7 0", "never = 0", "ask 0 0 = 0");
        Script.hold(27, "of like ones the least.", "houses r1", "terms gh1;a1", "writing 0 0 0", "writing 1 0 0", "ask 0 0 = 6", "ask 1 0 = 6",
            "writing 0 0 1", "ask 0 0 = 0", "back 0", "ask 0 0 = 6");
        Script.hold(27, "the LETTER of which the greatest number of those WRITINGS by which it has alike many is least", "houses r9", "terms ah1;h1;hh1",
            "writing 0 0 0", "writing 0 0 1", "ask 0 0 = 0", "writing 0 0 2", "writing 0 0 2", "ask 0 0 = 7", "writing 5 0 2", "ask 0 0 = 7");
        Script.hold(27, "greatest number of those WRITINGS by which it has alike many", "houses r9", "terms h1;c1;d1", "writing 0 0 0", "writing 0 0 1",
            "writing 0 0 0", "writing 0 0 2", "writing 0 0 0", "ask 0 0 = 7", "seen 0 0 7 15", "never = 10", "ask 0 0 = 2", "ask 1 0 = 0");
        // A miser with six h a month: behind month 0 without the one five, without the other three; then 8 and 7, 10 and 9, 11 and 10, 11 and 11.
        Script.hold(27, "ASK of a HOUSE behind a MONTH", "houses m3", "terms hhh1;h1", "writing 0 0 0", "writing 0 0 1", "ask 0 0 = 7", "ask 1 0 = 7",
            "ask 3 0 = 7", "ask 4 0 = 0", "ask 11 0 = 0", "ask 0 0 = 7", "has 1 0 7 = 7");
        Script.hold(27, "ASK.", behind(A_YEAR, "ask 11 0 = 1", "ask 0 0 = 1", "seen 11 0 1 1", "ask 11 0 = 0", "ask 0 0 = 1"));
    }

    /** Of each house and each letter: only of this letter it has otherwise many without the one writing than without the other. */
    private static void askEach() {
        for (int house = 0; house < 8; house++) {
            for (int letter = 0; letter < 8; letter++) {
                char sign = (char) ('a' + letter);
                Script.hold(27, "ASK of a HOUSE behind a MONTH", "houses r3;r3;r3;r3;r3;r3;r3;r3", "terms " + sign + "1;" + sign + sign + "1",
                    "writing 2 " + house + " 0", "writing 2 " + house + " 1", "ask 2 " + house + " = " + letter,
                    "ask 2 " + (house + 1) % 8 + " = 0", "ask 1 " + house + " = 0");
            }
        }
    }

    private static final String CENSOR = "CENSOR: above, below.";
    private static final String TWELVE_FINED = "houses r1;r1 / terms bbb1 / 12* writing 0 0 0";

    private static void fraction(String sentence, String state, String call, long above, long below) {
        Script.hold(28, sentence, behind(state, "censor " + call + " 0 = " + above, "censor " + call + " 1 = " + below));
    }

    private static void censorRefused() {
        Script.range(28, "CENSOR: each WRITING goes through by c sixteenths (0 to 16)", TWELVE_FINED, "censor ? 0 1 0", 0, 16);
        Script.range(28, HOUSES, EIGHT_HOUSES, "censor 5 ? 1 0", 0, 7);
        Script.range(28, "BAD.", "houses r1", "censor 5 ? 1 1", 0, 0);
        Script.range(28, "is FINED no more than so many times (0 to 12)", TWELVE_FINED, "censor 5 0 ? 0", 0, 12);
        Script.range(28, CENSOR, TWELVE_FINED, "censor 5 0 1 ?", 0, 1);
        Script.hold(28, "(As the least long.)", "censor 0 0 0 0 = -9223372036854775806", "censor 17 0 0 1 = -9223372036854775806",
            "censor 0 0 0 0 = BAD", "terms a1", "censor 0 0 0 0 = BAD", "houses r1", "censor 0 0 0 0 = 1");
        Script.hold(28, "Where the answer is a long, a refusal -x is the least long and x more.", "houses r1", "censor 17 0 0 0 = -9223372036854775806",
            "censor 0 1 0 0 = -9223372036854775806", "censor 0 0 13 0 = -9223372036854775806", "censor 0 0 0 2 = -9223372036854775806");
    }

    private static void censorLowest() {
        String lowest = "FRACTIONS are told in lowest terms, above and below (0 by 1).";
        fraction(lowest, TWELVE_FINED, "16 0 0", 0, 1);
        fraction(lowest, TWELVE_FINED, "16 0 11", 0, 1);
        fraction(lowest, TWELVE_FINED, "16 0 12", 1, 1);
        fraction(lowest, TWELVE_FINED, "0 0 0", 1, 1);
        fraction(lowest, TWELVE_FINED, "0 0 12", 1, 1);
        fraction(lowest, TWELVE_FINED, "5 0 12", 1, 1);
        fraction(lowest, TWELVE_FINED, "8 0 0", 1, 4096);
        fraction(lowest, TWELVE_FINED, "8 0 11", 4095, 4096);
        fraction(lowest, TWELVE_FINED, "12 0 0", 1, 16777216);
        fraction(lowest, TWELVE_FINED, "4 0 0", 531441, 16777216);
        fraction(lowest, TWELVE_FINED, "14 0 0", 1, 68719476736L);
        fraction(lowest, TWELVE_FINED, "2 0 0", 13841287201L, 68719476736L);
        // 15 to the power of 12, by 16 to the power of 12: the greatest below that can be.
        fraction(lowest, TWELVE_FINED, "1 0 0", 129746337890625L, 281474976710656L);
        fraction(lowest, TWELVE_FINED, "15 0 0", 1, 281474976710656L);
        fraction(lowest, TWELVE_FINED, "15 0 11", 151728638820031L, 281474976710656L);
        fraction(lowest, "houses r1 / terms bbb1 / writing 0 0 0", "6 0 0", 5, 8);
        fraction(lowest, "houses r1 / terms bbb1 / writing 0 0 0", "1 0 0", 15, 16);
        fraction(lowest, "houses r1 / terms bbb1 / writing 0 0 0", "15 0 0", 1, 16);
        fraction(lowest, "houses r1 / terms bbb1 / writing 0 0 0", "5 0 1", 1, 1);
    }

    private static void censorOthers() {
        String byItself = "by itself (others are as if they were not)";
        fraction(byItself, TWELVE_FINED, "16 1 0", 1, 1);
        fraction(byItself, "houses r1", "5 0 0", 1, 1);
        fraction(byItself, "houses r1", "16 0 0", 1, 1);
        fraction(byItself, "houses r1 / terms bb1 / writing 0 0 0 / writing 0 0 0", "8 0 0", 3, 4);
        fraction(byItself, "houses r1 / terms bb1 / writing 0 0 0 / writing 0 0 0", "8 0 1", 1, 1);
        fraction(byItself, "houses r1 / terms bb1 / writing 0 0 0 / writing 1 0 0", "8 0 0", 1, 1);
        fraction(byItself, "houses m1 / terms bbb1;b1 / writing 1 0 0 / writing 0 0 1", "8 0 0", 3, 4);
        fraction(byItself, "houses r1 / terms bbb1 / writing 0 1 0 / writing 0 0 1 / writing 0 7 7", "16 0 0", 1, 1);
        fraction(byItself, "houses r1 / terms bbb1 / writing 0 1 0 / writing 11 0 0 / writing 0 0 1", "4 0 0", 3, 4);
        fraction(byItself, "houses v1 / terms ab1 / ration 0 0 / 3* writing 0 0 0", "8 0 0", 7, 8);
        String lent = "houses m1;r1 / terms bbb1;b1 / lending 1 0 1 1 / lending 1 0 1 1 / lending 1 0 1 1 / lending 1 1 0 1";
        fraction(byItself, lent + " / writing 1 1 0", "8 1 0", 1, 1);
        fraction(byItself, lent + " / writing 1 0 1", "8 0 0", 1, 1);
        fraction(byItself, "houses m1;r1 / terms bbbbb1;b1 / writing 0 0 1 / writing 1 1 0 / 3* lending 1 0 1 1", "8 1 0", 3, 4);
        fraction(byItself, "houses m2;r1 / terms bbbbbb1;bb1 / writing 0 0 1 / writing 1 1 0 / 8* lending 1 0 1 1", "8 1 0", 1, 1);
        fraction(byItself, "houses m2;r1 / terms bbbbbb1;bbbb1 / writing 0 0 1 / writing 1 1 0 / 4* lending 1 0 1 1", "8 1 0", 1, 1);
        Script.hold(28, byItself, "houses m1", "terms bbb1", "writing 0 0 0", "censor 8 0 0 0 = 1", "censor 8 0 0 1 = 2", "ration 7 1",
            "censor 8 0 0 0 = 1", "censor 8 0 0 1 = 2", "ration 1 3", "censor 8 0 0 1 = 1");
        String twoOfThree = "houses r1 / terms bbb1 / 3* writing 0 0 0";
        String chance = "the chance that a HOUSE is FINED no more than so many times (0 to 12): a FRACTION.";
        fraction(chance, twoOfThree, "8 0 0", 1, 8);
        fraction(chance, twoOfThree, "8 0 1", 1, 2);
        fraction(chance, twoOfThree, "8 0 2", 7, 8);
        fraction(chance, twoOfThree, "8 0 3", 1, 1);
    }

    /** Of each house and each letter, what is left in a month counts in the next: 2, then 1 and 2 more, for a term of 3. */
    private static void censorEach() {
        String sentence = "the chance that a HOUSE is FINED no more than so many times (0 to 12): a FRACTION.";
        for (int house = 0; house < 8; house++) {
            for (char letter = 'a'; letter <= 'h'; letter++) {
                String state = "houses m1;m1;m1;m1;m1;m1;m1;m1 / terms " + letter + letter + letter + "1 / writing 0 "
                    + house + " 0 / writing 1 " + house + " 0";
                fraction(sentence, state, "8 " + house + " 0", 1, 2);
                fraction(sentence, state, "8 " + (house + 1) % 8 + " 0", 1, 1);
            }
        }
    }

    private static final String POST = "POST: how many are written (house = NONE), how many LETTERS a HOUSE has.";

    private static void postRefused() {
        Script.range(29, MONTHS, EIGHT_HOUSES + " / " + EIGHT_TERMS, "post 7 ? 0", 0, 11);
        Script.range(29, MONTHS, "", "post 7 ? NONE", 0, 11);
        Script.range(29, POST, EIGHT_HOUSES + " / " + EIGHT_TERMS, "post 7 0 ?", -1, 7);
        Script.range(29, "BAD.", "houses r1", "post 7 0 ?", -1, 0);
        Script.range(29, "BAD.", "terms a1", "post 7 0 ?", -1, -1);
        Script.hold(29, "BAD.", "post 0 0 NONE = 0", "post 0 0 0 = BAD", "houses r1", "post 0 0 0 = 16", "houses ;", "post 0 0 0 = BAD",
            "post 0 0 NONE = 0");
    }

    /** Seven houses with 16 letters each; the term at i has i + 1 letters, so that what is left tells both lots. */
    private static void postLots() {
        String state = "houses r1;r1;r1;r1;r1;r1;r1 / terms b1;bc1;bcd1;bcdf1;bcdfg1;bcdfgh1";
        String lots = "LOTS of m: SEED becomes 1103515245 SEED and 12345, as ints that wrap;";
        // seed, house 0 to 6 and term 0 to 5: of the upper bits 0, 54236; 16838, 38526; 48697, 4409; 15929, 37177; 32768, 21468.
        int[][] first = {{0, 0, 2}, {1, 3, 0}, {-1, 5, 5}, {Integer.MAX_VALUE, 4, 1}, {Integer.MIN_VALUE, 1, 0}, {7, 0, 2}, {12345, 0, 0}};
        for (int[] lot : first) {
            for (int house = 0; house < 7; house++) {
                int left = house == lot[1] ? 15 - lot[2] : 16;
                Script.hold(29, lots, behind(state, "post " + lot[0] + " 0 " + house + " = " + left));
            }
        }
        Script.hold(29, "its upper 16 bits as a number from 0 on, modulo m.", behind(state, "post 1 0 3 = 15", "post 1 1 5 = 12", "post 1 1 3 = 16",
            "post 1 2 0 = 14", "post 1 3 2 = 10", "post 0 1 0 = 12", "post 0 2 5 = 12", "post 0 3 1 = 12", "post -1 1 6 = 13", "post -1 2 5 = 11"));
    }

    private static void postMonths() {
        String months = "POST by a SEED: in each MONTH from 0 to a told one a LOT of HOUSES, a LOT of TERMS is a WRITING more, behind those told";
        Script.hold(29, months, "houses r1", "terms b1", "post 5 0 NONE = 1", "post 5 0 0 = 15", "post 5 1 NONE = 2", "post 5 11 NONE = 12",
            "post 5 11 0 = 15", "count 4 = 0", "has 0 0 NONE = 16");
        Script.hold(29, months, "houses r1", "terms bb1", "12* writing 11 0 0", "post 5 11 NONE = 11", "post 5 10 NONE = 11", "post 5 11 0 = 14",
            "count 4 = 12", "became 0 = 1", "fines 0 = 11");
        Script.hold(29, months, "houses m1", "terms bbb1", "post 0 0 NONE = 0", "post 0 1 NONE = 1", "post 0 2 NONE = 1", "post 0 1 0 = 21",
            "post 0 2 0 = 23");
        Script.hold(29, "(no LOTS where there are no HOUSES, or no TERMS)", "post 7 11 NONE = 0", "houses r1", "post 7 11 NONE = 0", "post 7 11 0 = 16",
            "wipe 0", "terms b1", "post 7 11 NONE = 0", "houses r1", "post 7 11 NONE = 12", "type 1 59", "post 7 11 NONE = 0", "post 7 11 0 = 16");
        Script.hold(29, "how many of these are written, IN FULL or SHORT;", "houses v1", "terms ab1", "post 3 11 NONE = 12", "ration 0 0",
            "post 3 11 NONE = 12", "post 3 11 0 = 13", "ration 1 0", "post 3 11 NONE = 0", "post 3 11 0 = 12");
        Script.hold(29, "how many LETTERS a HOUSE has behind the last of these.", "houses m1", "terms b1", "post 0 0 0 = 15", "post 0 1 0 = 22",
            "writing 1 0 0", "post 0 0 0 = 15", "post 0 1 0 = 21");
    }
}
