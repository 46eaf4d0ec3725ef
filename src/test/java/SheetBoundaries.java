/** The boundary cases of promises 30 to 37: sheets, count, digest. */
final class SheetBoundaries {
    private static final String EIGHT_HOUSES = "houses r1;m2;v3;r4;m5;v6;r7;m8";
    private static final String EIGHT_TERMS = "terms a1;b2;c3;d4;e5;f6;g7;h8";
    private static final String FORMS = "or a row of a FORM: 0 bytes, 1 shorts, 2 ints, of 0 to 60 items (0 at first).";
    private static final String ORDER = "Refusals, the first that fits, in the order told at each act";

    private SheetBoundaries() {
    }

    static void holdAll() {
        sheet();
        newRow();
        lose();
        layTaken();
        layRefused();
        get();
        copy();
        copyOverItself();
        copyRefused();
        copyCounts();
        write();
        writeRefused();
        count();
        findings();
        digest();
        digestFull();
    }

    private static void sheet() {
        Script.range(30, "SHEETS 0 .. 3 are LOST (at first)", "", "sheet ? 0 1", 0, 3);
        Script.range(30, FORMS, "", "sheet 0 ? 1", 0, 2);
        for (int form = 0; form < 3; form++) {
            Script.hold(30, "A SHEET is a new row of a FORM with n items: n.", "sheet 0 " + form + " 0 = 0", "get 0 " + form + " 0 = INDEX",
                "sheet 3 " + form + " 60 = 60", "get 3 " + form + " 59 = 0", "get 3 " + form + " 60 = INDEX", "lose 3 = 60", "lose 0 = 0");
            Script.hold(30, "BAD: SHEET, FORM, above 60;", "sheet 0 " + form + " 61 = BAD", "sheet 0 " + form + " MAX = BAD", "lose 0 = NULL",
                "sheet 0 " + form + " 60 = 60", "sheet 0 " + form + " 61 = BAD", "lose 0 = 60");
            Script.hold(30, "SIZE.", "sheet 0 " + form + " -1 = SIZE", "count 8 = 5", "sheet 0 " + form + " MIN = SIZE", "lose 0 = NULL",
                "items 0 " + form + " 7", "sheet 0 " + form + " -1 = SIZE", "get 0 " + form + " 0 = 7", "sheet 0 " + form + " 0 = 0");
        }
        Script.hold(30, ORDER, "sheet 4 0 -1 = BAD", "sheet -1 0 -1 = BAD", "sheet 0 3 -1 = BAD", "sheet 0 -1 -1 = BAD", "sheet 4 3 61 = BAD",
            "count 8 = 0", "sheet 0 0 -1 = SIZE");
    }

    private static void newRow() {
        Script.hold(30, "(0 at first)", "items 1 2 5 MIN MAX", "sheet 1 2 3 = 3", "get 1 2 0 = 0", "get 1 2 1 = 0", "get 1 2 2 = 0");
        Script.hold(30, "(0 at first)", "items 1 2 5 6 7", "sheet 1 2 1 = 1", "sheet 1 2 3 = 3", "get 1 2 2 = 0", "lay 1 2 2 9", "lose 1 = 3",
            "sheet 1 0 3 = 3", "get 1 0 2 = 0");
        Script.hold(30, "A SHEET is a new row of a FORM with n items: n.", "items 0 0 1 2", "items 1 1 3", "sheet 0 1 1 = 1", "get 0 1 0 = 0",
            "get 0 0 0 = CAST", "get 0 1 1 = INDEX", "get 1 1 0 = 3", "lose 0 = 1");
    }

    private static void lose() {
        for (int s = 0; s < 4; s++) {
            Script.hold(31, "NULL.", "lose " + s + " = NULL", "count 8 = 1", "sheet " + s + " 0 0", "lose " + s + " = 0", "lose " + s + " = NULL");
            Script.hold(31, "It is LOST: how many items it had.", "sheet " + s + " 2 60", "sheet " + (s + 1) % 4 + " 2 1", "lose " + s + " = 60",
                "get " + s + " 2 0 = NULL", "lose " + (s + 1) % 4 + " = 1", "sheet " + s + " 1 59", "lose " + s + " = 59");
        }
        Script.range(31, "BAD;", "sheet 0 0 1 / sheet 3 0 1", "lose ?", 0, 3);
        Script.range(31, "BAD;", "", "lose ?", 0, 3);
    }

    private static void layTaken() {
        String bits = "Item i, treated as of a FORM, becomes v (the lowest bits that it has): 1.";
        int[][] bytes = {{127, 127}, {128, -128}, {255, -1}, {256, 0}, {-128, -128}, {-129, 127}, {-256, 0}};
        for (int[] v : bytes) {
            Script.hold(32, bits, "sheet 0 0 1", "lay 0 0 0 " + v[0] + " = 1", "get 0 0 0 = " + v[1]);
        }
        int[][] shorts = {{32767, 32767}, {32768, -32768}, {65535, -1}, {65536, 0}, {-32768, -32768}, {-32769, 32767}, {128, 128}, {-65536, 0}};
        for (int[] v : shorts) {
            Script.hold(32, bits, "sheet 1 1 1", "lay 1 1 0 " + v[0] + " = 1", "get 1 1 0 = " + v[1]);
        }
        Script.hold(32, bits, "sheet 0 0 2", "lay 0 0 0 MIN = 1", "lay 0 0 1 MAX = 1", "get 0 0 0 = 0", "get 0 0 1 = -1");
        Script.hold(32, bits, "sheet 1 1 2", "lay 1 1 0 MIN = 1", "lay 1 1 1 MAX = 1", "get 1 1 0 = 0", "get 1 1 1 = -1");
        Script.hold(32, bits, "sheet 2 2 4", "lay 2 2 0 MIN = 1", "lay 2 2 1 MAX = 1", "lay 2 2 2 32768 = 1", "lay 2 2 3 -1 = 1", "get 2 2 0 = MIN",
            "get 2 2 1 = MAX", "get 2 2 2 = 32768", "get 2 2 3 = -1", "count 8 = 0");
        for (int form = 0; form < 3; form++) {
            Script.hold(32, bits, "sheet 3 " + form + " 60", "lay 3 " + form + " 0 5 = 1", "lay 3 " + form + " 59 6 = 1", "get 3 " + form + " 0 = 5",
                "get 3 " + form + " 1 = 0", "get 3 " + form + " 58 = 0", "get 3 " + form + " 59 = 6");
        }
    }

    private static void layRefused() {
        Script.range(32, "BAD;", "sheet 0 0 1 / sheet 3 0 1", "lay ? 0 0 7", 0, 3);
        Script.range(32, "BAD;", "sheet 0 0 1", "lay 0 ? 0 7", 0, 2);
        Script.hold(32, "NULL;", "lay 0 0 0 7 = NULL", "count 8 = 1", "lay 3 2 59 7 = NULL", "sheet 3 2 60", "lay 3 2 59 7 = 1", "lose 3",
            "lay 3 2 59 7 = NULL", "sheet 3 2 60", "get 3 2 59 = 0");
        for (int form = 0; form < 3; form++) {
            int other = (form + 1) % 3;
            int another = (form + 2) % 3;
            Script.hold(32, "CAST;", "items 0 " + form + " 5", "lay 0 " + other + " 0 7 = CAST", "count 8 = 3", "lay 0 " + another + " 0 7 = CAST",
                "get 0 " + form + " 0 = 5");
            Script.hold(32, "INDEX.", "sheet 0 " + form + " 0", "lay 0 " + form + " 0 7 = INDEX", "count 8 = 2", "sheet 0 " + form + " 60",
                "lay 0 " + form + " 60 7 = INDEX", "lay 0 " + form + " -1 7 = INDEX", "lay 0 " + form + " MIN 7 = INDEX",
                "lay 0 " + form + " MAX 7 = INDEX", "sheet 0 " + form + " 1", "lay 0 " + form + " 1 7 = INDEX", "lay 0 " + form + " 0 7 = 1");
        }
        Script.hold(32, ORDER, "lay 4 3 -1 7 = BAD", "lay 0 3 -1 7 = BAD", "count 8 = 0", "lay 0 1 -1 7 = NULL", "sheet 0 0 1", "lay 0 3 -1 7 = BAD",
            "lay 0 1 -1 7 = CAST", "lay 0 1 1 7 = CAST", "lay 0 0 1 7 = INDEX");
    }

    private static void get() {
        Script.range(33, "BAD: the least int;", "sheet 0 0 1 / sheet 3 0 1", "get ? 0 0", 0, 3);
        for (int form : new int[] {-1, 3, Integer.MIN_VALUE, Integer.MAX_VALUE}) {
            Script.hold(33, "BAD: the least int;", "sheet 0 0 1", "get 0 " + form + " 0 = BAD", "count 8 = 0", "get 0 2 0 = CAST", "count 8 = 3",
                "get 0 " + form + " 0 = BAD", "count 8 = 3");
        }
        Script.hold(33, "BAD: the least int;", "get 4 0 0 = -2147483648", "get 0 3 0 = -2147483648", "count 8 = 0");
        Script.quick(33, "so are NULL, CAST, INDEX (count() 8 tells).", "get 0 0 0 = -2147483648", "count 8 = 1", "items 0 1 5", "count 8 = 1",
            "get 0 0 0 = -2147483648", "count 8 = 3", "get 0 1 1 = -2147483648", "count 8 = 2", "get 0 2 1 = -2147483648", "count 8 = 3",
            "get 9 1 0 = -2147483648", "count 8 = 3", "get 0 1 0 = 5", "count 8 = 3");
        Script.hold(33, "so are NULL, CAST, INDEX (count() 8 tells).", "get 0 0 0 = NULL", "get 3 2 59 = NULL", "sheet 0 1 60", "get 0 0 0 = CAST",
            "get 0 2 0 = CAST", "get 0 1 60 = INDEX", "get 0 1 -1 = INDEX", "get 0 1 MIN = INDEX", "get 0 1 MAX = INDEX", "get 0 1 59 = 0");
        Script.hold(33, "Item i of it.", "items 3 2 MIN MAX 0", "get 3 2 0 = MIN", "count 8 = 0", "get 3 2 1 = MAX", "get 3 2 2 = 0", "get 3 2 3 = INDEX",
            "get 3 2 0 = MIN", "count 8 = 2");
        Script.hold(33, ORDER, "get 4 3 -1 = BAD", "get 0 3 -1 = BAD", "get 0 0 -1 = NULL", "sheet 0 1 1", "get 0 0 -1 = CAST", "get 0 1 -1 = INDEX");
    }

    private static final String COPY = "n items of SHEET s, from i on, come to SHEET t (perhaps s, as they were), from j on: 1.";

    private static void copy() {
        for (int form = 0; form < 3; form++) {
            String f = " " + form + " ";
            Script.hold(34, COPY, "items 0" + f + "1 2 3 4", "items 3" + f + "5 6 7", "copy 0 1 3 0 3 = 1", "get 3" + f + "0 = 2", "get 3" + f + "1 = 3",
                "get 3" + f + "2 = 4", "get 0" + f + "0 = 1", "get 0" + f + "1 = 2", "get 0" + f + "3 = 4", "copy 3 2 0 3 1 = 1", "copy 3 2 0 0 1 = 1",
                "get 0" + f + "0 = 4", "get 0" + f + "1 = 2");
        }
        Script.hold(34, COPY, "sheet 1 2 60", "sheet 2 2 60", "lay 1 2 0 8", "lay 1 2 59 9", "copy 1 0 2 0 60 = 1", "get 2 2 0 = 8", "get 2 2 59 = 9",
            "copy 1 59 2 1 1 = 1", "get 2 2 1 = 9", "copy 1 0 2 59 1 = 1", "get 2 2 59 = 8");
        Script.hold(34, COPY, "sheet 0 1 0", "sheet 1 1 0", "copy 0 0 1 0 0 = 1", "copy 0 0 0 0 0 = 1", "sheet 1 1 3", "copy 0 0 1 3 0 = 1",
            "copy 1 3 0 0 0 = 1", "count 8 = 0", "copy 1 0 0 0 1 = INDEX", "copy 0 0 1 0 1 = INDEX");
    }

    private static void copyOverItself() {
        Script.hold(34, "(perhaps s, as they were)", "items 0 0 1 2 3 4 5", "copy 0 0 0 1 4 = 1", "get 0 0 0 = 1", "get 0 0 1 = 1", "get 0 0 2 = 2",
            "get 0 0 3 = 3", "get 0 0 4 = 4");
        Script.hold(34, "(perhaps s, as they were)", "items 0 1 1 2 3 4 5", "copy 0 1 0 0 4 = 1", "get 0 1 0 = 2", "get 0 1 1 = 3", "get 0 1 2 = 4",
            "get 0 1 3 = 5", "get 0 1 4 = 5");
        Script.hold(34, "(perhaps s, as they were)", "items 0 2 1 2 3", "copy 0 0 0 0 3 = 1", "get 0 2 0 = 1", "get 0 2 1 = 2", "get 0 2 2 = 3",
            "copy 0 3 0 0 0 = 1", "copy 0 0 0 1 3 = INDEX", "get 0 2 2 = 3");
    }

    private static void copyRefused() {
        Script.range(34, "BAD: the SHEETS;", "sheet 0 0 1 / sheet 1 0 1 / sheet 3 0 1", "copy ? 0 1 0 1", 0, 3);
        Script.range(34, "BAD: the SHEETS;", "sheet 0 0 1 / sheet 1 0 1 / sheet 3 0 1", "copy 1 0 ? 0 1", 0, 3);
        Script.hold(34, "NULL: s, t;", "copy 0 0 1 0 0 = NULL", "copy 2 0 2 0 0 = NULL", "sheet 0 0 1", "copy 0 0 1 0 0 = NULL", "copy 1 0 0 0 0 = NULL",
            "count 8 = 1", "sheet 1 0 1", "copy 1 0 0 0 0 = 1", "lose 0", "copy 1 0 0 0 0 = NULL", "copy 0 0 1 0 0 = NULL");
        Script.hold(34, "STORE;", "items 0 0 5", "items 1 1 6", "items 2 2 7", "copy 0 0 1 0 1 = STORE", "count 8 = 4", "copy 0 0 2 0 1 = STORE",
            "copy 1 0 0 0 1 = STORE", "copy 1 0 2 0 1 = STORE", "copy 2 0 0 0 1 = STORE", "copy 2 0 1 0 0 = STORE", "get 0 0 0 = 5", "get 1 1 0 = 6",
            "get 2 2 0 = 7");
        Script.hold(34, ORDER, "sheet 0 0 1", "copy 0 -1 4 0 9 = BAD", "copy -1 -1 1 0 9 = BAD", "count 8 = 0", "copy 0 -1 1 0 9 = NULL",
            "copy 1 -1 0 0 9 = NULL", "sheet 1 1 1", "copy 0 -1 1 -1 -1 = STORE", "copy 1 2 0 0 1 = STORE", "sheet 1 0 1", "copy 0 -1 1 0 1 = INDEX");
    }

    private static void copyCounts() {
        String sentence = "INDEX: below 0, not so many.";
        String state = "items 0 1 1 2 3 4 5 / items 1 1 6 7 8";
        String[] below = {"0 -1 1 0 1", "0 0 1 -1 1", "0 0 1 0 -1", "0 -1 1 0 0", "0 0 1 -1 0", "0 MIN 1 0 1", "0 0 1 MIN 1", "0 0 1 0 MIN",
            "0 MIN 1 MIN MIN", "0 -1 1 -1 -1", "0 1 1 1 -1"};
        String[] tooMany = {"0 0 1 0 4", "1 0 0 0 4", "0 5 1 0 1", "0 4 1 0 2", "0 0 1 3 1", "0 0 1 2 2", "1 1 0 0 3", "0 6 1 0 0", "0 0 1 4 0",
            "0 0 0 0 6", "0 1 0 0 5", "0 0 0 1 5"};
        String[] wrap = {"0 0 1 0 MAX", "0 1 1 1 MAX", "0 MAX 1 0 1", "0 0 1 MAX 1", "0 MAX 1 MAX MAX", "0 MAX 1 0 MAX", "0 MAX 1 0 MIN",
            "0 MAX 1 0 0", "0 0 1 MAX 0"};
        for (String[] group : new String[][] {below, tooMany, wrap}) {
            for (String call : group) {
                Script.hold(34, sentence, (state + " / copy " + call + " = INDEX / count 8 = 2").split(" / "));
            }
        }
        String[] taken = {"0 0 1 0 3", "0 2 1 0 3", "1 0 0 2 3", "0 5 1 3 0", "0 0 0 0 5", "0 4 1 2 1", "1 0 0 5 0"};
        for (String call : taken) {
            Script.hold(34, sentence, (state + " / copy " + call + " = 1 / count 8 = 0").split(" / "));
        }
    }

    private static final String WRITE = "comes to a SHEET from item 0 on, as many as there are items, 8 at most: how many.";

    private static void write() {
        String state = "houses r1;m9 / ration 0 0 / ration 1 1 / ration 3 3 / ration 4 4 / ration 5 5 / ration 6 6 / ration 7 9";
        for (int n : new int[] {0, 1, 7, 8, 9, 60}) {
            int many = Math.min(n, 8);
            StringBuilder steps = new StringBuilder(state).append(" / sheet 0 2 ").append(n);
            if (n > 8) {
                steps.append(" / lay 0 2 8 77 / lay 0 2 ").append(n - 1).append(" 77");
            }
            steps.append(" / write 0 0 0 = ").append(many);
            for (int i = 0; i < many; i++) {
                steps.append(" / get 0 2 ").append(i).append(" = ").append(i == 7 ? 9 : i);
            }
            steps.append(n > 8 ? " / get 0 2 8 = 77 / get 0 2 " + (n - 1) + " = 77" : " / get 0 2 " + n + " = INDEX");
            Script.hold(35, WRITE, steps.append(" / lose 0 = ").append(n).toString().split(" / "));
        }
        Script.hold(35, "How many of LETTERS 0 to 7 a HOUSE has behind a MONTH", (state + " / sheet 0 0 8 / sheet 1 1 8 / sheet 2 2 8 / write 11 1 0 = 8"
            + " / write 11 1 1 = 8 / write 11 1 2 = 8 / get 0 0 7 = -95 / get 1 1 7 = 161 / get 2 2 7 = 161 / get 0 0 1 = 17 / get 0 0 0 = 0").split(" / "));
        Script.hold(35, "How many of LETTERS 0 to 7 a HOUSE has behind a MONTH", "houses r1;r2", "terms bb1", "writing 11 0 0", "sheet 3 0 2",
            "write 11 0 3 = 2", "get 3 0 0 = 2", "get 3 0 1 = 0", "write 10 0 3 = 2", "get 3 0 1 = 2", "write 11 1 3 = 2", "get 3 0 1 = 4");
    }

    private static void writeRefused() {
        Script.range(35, "MONTHS are 0 to 11.", EIGHT_HOUSES + " / sheet 0 0 8", "write ? 7 0", 0, 11);
        Script.range(35, "BAD;", EIGHT_HOUSES + " / sheet 0 0 8", "write 11 ? 0", 0, 7);
        Script.range(35, "BAD;", "houses r1 / sheet 0 0 8", "write 0 ? 0", 0, 0);
        Script.range(35, "BAD;", "houses r1 / sheet 0 0 8 / sheet 3 0 8", "write 0 0 ?", 0, 3);
        Script.hold(35, "BAD;", "sheet 0 0 8", "write 0 0 0 = BAD", "houses r1", "write 0 0 0 = 8", "houses ;", "write 0 0 0 = BAD");
        for (int s = 0; s < 4; s++) {
            Script.hold(35, "NULL.", "houses r1", "write 0 0 " + s + " = NULL", "count 8 = 1", "sheet " + s + " 0 0", "write 0 0 " + s + " = 0", "lose " + s,
                "write 0 0 " + s + " = NULL");
        }
        Script.hold(35, ORDER, "houses r1", "write 12 0 0 = BAD", "write -1 0 0 = BAD", "write 0 1 0 = BAD", "write 0 -1 0 = BAD", "count 8 = 0",
            "write 0 0 0 = NULL");
    }

    private static void count() {
        Script.range(36, "BAD.", "", "count ?", 0, 8);
        Script.range(36, "BAD.", EIGHT_HOUSES, "count ?", 0, 8);
        String what = "0 HOUSES, 1 TERMS, 2, 3 bytes of texts, 4 WRITINGS, 5 LENDINGS, 6 FINES of all, 7 SEEN";
        Script.hold(36, what, "count 0 = 0", "count 1 = 0", "count 2 = 0", "count 3 = 0", "count 4 = 0", "count 5 = 0", "count 6 = 0", "count 7 = 0",
            "count 8 = 0");
        Script.hold(36, what, "houses r1;r1;r1;r1;r1;r1;r1;r1", "terms bbbbb1;bbbbb1;bbbbb1;bbbbb1;bbbbb1;bbbbb1;bbbbb1;bbbbb1", "12* writing 11 7 7",
            "8* lending 0 0 1 0", "8* seen 0 0 0 0", "count 0 = 8", "count 1 = 8", "count 2 = 23", "count 3 = 55", "count 4 = 12", "count 5 = 8",
            "count 6 = 12", "count 7 = 8", "count 8 = 0", "undo 0", "undo 1", "count 0 = 0", "count 1 = 0", "count 2 = 22", "count 3 = 54",
            "count 4 = 12", "count 5 = 8", "count 6 = 0", "count 7 = 8");
        Script.hold(36, "6 FINES of all", "houses r1;r1", "terms bbb1;b1", "writing 0 0 0", "writing 0 1 0", "writing 0 2 0", "writing 0 0 1",
            "count 6 = 2", "fines 0 = 1", "fines 1 = 1", "ration 1 3", "count 6 = 1");
    }

    /** Each finding by each act that has it, told by count() 8 until another comes. */
    private static void findings() {
        String latest = "8 the number of the latest FINDING (0 before any).";
        Script.hold(36, latest, "count 8 = 0", "type 2 0 = BAD", "undo 0 = NOT", "lose 4 = BAD", "count 8 = 0", "lose 0 = NULL", "count 8 = 1",
            "sheet 0 0 -1 = SIZE", "count 8 = 5", "sheet 0 0 1", "sheet 1 1 1", "count 8 = 5", "copy 0 0 1 0 1 = STORE", "count 8 = 4",
            "lay 0 1 0 0 = CAST", "count 8 = 3", "lay 0 0 1 0 = INDEX", "count 8 = 2", "read 2 = NULL", "count 8 = 1", "get 0 0 0 = 0", "undo 0 = NOT",
            "back 0 = NOT", "count 9 = BAD", "count 8 = 1", "get 0 0 1 = INDEX", "count 8 = 2", "get 0 1 0 = CAST", "count 8 = 3");
        Script.hold(36, "FINDINGS (answers -10 less the number;", "lose 0 = -11", "sheet 0 0 -1 = -15");
        Script.hold(36, "1 NULL: the SHEET is LOST;", "lose 0 = -11", "read 1 = -11", "lay 2 0 0 0 = -11", "copy 3 0 3 0 0 = -11", "get 0 0 0 = NULL",
            "houses r1", "write 0 0 0 = -11", "count 8 = 1");
        Script.hold(36, "2 INDEX: there is no such item;", "sheet 0 0 1", "lay 0 0 1 0 = -12", "get 0 0 1 = INDEX", "copy 0 1 0 0 1 = -12", "count 8 = 2");
        Script.hold(36, "3 CAST: it has another FORM;", "sheet 0 0 1", "lay 0 1 0 0 = -13", "get 0 2 0 = CAST", "count 8 = 3");
        Script.hold(36, "4 STORE: unlike FORMS;", "sheet 0 0 1", "sheet 1 2 1", "copy 0 0 1 0 1 = -14", "count 8 = 4");
        Script.hold(36, "5 SIZE: below 0.", "sheet 0 0 -1 = -15", "count 8 = 5");
        Script.hold(36, "they change nothing but count() 8): 1 NULL", EIGHT_HOUSES, EIGHT_TERMS, "writing 0 0 0", "lending 0 7 0 7", "seen 0 0 0 1",
            "ration 3 4", "items 0 1 5 6", "lay 0 0 0 9 = CAST", "lay 0 1 2 9 = INDEX", "sheet 0 1 -1 = SIZE", "copy 0 0 1 0 1 = NULL",
            "read 1 = NULL", "sheet 1 2 1", "copy 0 0 1 0 1 = STORE", "get 0 1 0 = 5", "digest = CALLS");
        Script.hold(36, "They change nothing (FINDINGS but count() 8).", EIGHT_HOUSES, EIGHT_TERMS, "12* writing 5 2 2", "8* lending 5 7 2 2",
            "8* seen 5 2 2 0", "type 0 'r' = FULL", "writing 0 0 0 = FULL", "lending 0 0 1 0 = FULL", "seen 0 0 0 0 = FULL", "digest = CALLS");
        Script.hold(36, "BAD -2 (a number not as told, no such thing), NULL, NOT -3 (as told), FULL -4, other FINDINGS.", "type 0 256 = -2",
            "undo 0 = -3", "back 1 = -3", "8* lending 0 0 1 0", "lending 0 0 1 0 = -4", "house 0 0 = -2", "became 0 = -2", "lose 0 = -11");
    }

    private static void digest() {
        Script.hold(37, "h is 17;", "digest = CALLS", "digest = " + ofNothing());
        Script.hold(37, "h becomes 31 h and each of: count() 0 to 7;", "lose 0 = NULL", "digest = " + ofNothing(), "writing 0 0 0", "digest = CALLS",
            "lending 0 0 1 0", "digest = CALLS", "seen 0 0 0 0", "digest = CALLS");
        Script.hold(37, "of texts fault();", "houses r1;x", "terms abc", "fault 0 = 3", "fault 1 = 3", "digest = CALLS", "undo 0", "digest = CALLS");
        Script.hold(37, "of HOUSES house() 0, 1, has(0, it, NONE), has(11, it, NONE), has(5, it, 0), fines(), most(3, it, 0 and 1)",
            "houses r1;m2;v9", "digest = CALLS", "writing 0 0 0", "terms bbb1;b1", "digest = CALLS",
            "2* writing 3 1 1", "ration 0 1", "digest = CALLS");
        Script.hold(37, "say(3, it, 1), ask(3, it), censor(5, it, 1), above, below, post(7, 9, it);",
            "houses r1", "terms h1;hhh1", "writing 3 0 0", "writing 5 0 0",
            "ask 2 0 = 0", "ask 3 0 = 7", "ask 4 0 = 0", "say 2 0 1 = 0", "digest = CALLS", "3* writing 3 0 1", "censor 5 0 1 0 = 1573",
            "censor 5 0 1 1 = 2048", "digest = CALLS");
        Script.hold(37, "of TERMS word() 0 to 9, papers() 0, 1, meant();", "terms abc1;ab2;c3;e4", "digest = CALLS", EIGHT_HOUSES, "digest = CALLS");
        Script.hold(37, "of WRITINGS became(), lend();", "houses v1;r1", "terms abb1;bb2", "ration 0 0", "writing 0 0 0", "writing 0 0 1", "writing 0 1 1",
            "writing 0 2 1", "became 0 = 2", "became 1 = 3", "became 2 = 1", "became 3 = 0", "lend 0 = 1", "lend 1 = 2", "lend 3 = NONE", "digest = CALLS");
        Script.hold(37, "of LETTERS 0 to 7 spent(), got();", "houses r9", "terms abcdef1;aagghh2", "writing 0 0 0", "writing 0 0 1", "seen 0 0 7 16",
            "spent 0 = 3", "spent 7 = 2", "got 7 = 4", "digest = CALLS", "seen 0 0 0 1", "digest = CALLS");
        Script.hold(37, "bare() 0, 1, never(), post(7, 9, NONE);", "houses r1;r1", "terms b1", "rations 0", "ration 1 1", "writing 4 1 0", "bare 0 = 4",
            "bare 1 = 1", "never = 1", "post 7 9 NONE = 9", "digest = CALLS");
        Script.hold(37, "as longs that wrap.", EIGHT_HOUSES, "digest = CALLS", "wipe 0", "digest = " + ofNothing());
    }

    private static void digestFull() {
        Script.quick(37, "as longs that wrap.", "houses m9;v9;r9;m1;v1;r1;m5;v5", "terms abcde1;bcdef1;cdefg1;defgh1;efgha1;fghab1;ghabc1;habcd1",
            "12* writing 3 4 0", "8* lending 3 0 4 0", "8* seen 3 4 1 0", "digest = CALLS", "forget", "rations 0", "digest = CALLS", "rations 9", "digest = CALLS");
    }

    /** Of a new object: eight counts of 0, no faults, of eight letters none spent and all rations got, not bare, none never, no posts. */
    private static long ofNothing() {
        java.math.BigInteger h = java.math.BigInteger.valueOf(17);
        long[] row = {0, 0, 0, 0, 0, 0, 0, 0, -1, -1, 0, 1023, 0, 1023, 0, 1023, 0, 1023, 0, 1023, 0, 1023, 0, 1023, 0, 1023, -1, -1, 0, 0};
        for (long v : row) {
            h = h.multiply(java.math.BigInteger.valueOf(31)).add(java.math.BigInteger.valueOf(v));
        }
        return h.longValue();
    }
}
