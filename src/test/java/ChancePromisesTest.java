/** Promises 22 to 29: meant, seen, never, got, ask, censor, post. */
public final class ChancePromisesTest {
    private static final int NONE = -1, BAD = -2, FULL = -4;

    public static void main(String[] args) {
        promise22();
        promise23();
        promise24();
        promise25();
        promise26();
        promise27();
        promise28();
        promise28Misers();
        promise29();
        Check.end("ChancePromisesTest");
    }

    private static void due(String what, long got, long want) {
        Check.due(what, got, want);
    }

    private static void promise22() {
        OunceLetters x = Check.of("", "bad1;bde2;dab3;ae4;bd5;bbd6;eabed7");
        due("22: word 7", x.meant(7), BAD);
        due("22: word -1", x.meant(-1), BAD);
        int alike = 1 + 2 + 16 + 64;
        due("22: b d", x.meant(0), alike);
        due("22: b d", x.meant(1), alike);
        due("22: d b is another order", x.meant(2), 4);
        due("22: vowels alone", x.meant(3), 0);
        due("22: without vowels itself", x.meant(4), alike);
        due("22: b b d", x.meant(5), 32);
        due("22: b d", x.meant(6), alike);
        OunceLetters y = Check.of("", "bcd1;bdc1;gcd1;ab2;b2;ba2;bcde3;bcg4");
        due("22: b c d", y.meant(0), 1 + 64);
        due("22: the last two change places", y.meant(1), 2);
        due("22: the first is another", y.meant(2), 4);
        due("22: one letter", y.meant(3), 8 + 16 + 32);
        due("22: the last is another", y.meant(7), 128);
    }

    private static void promise23() {
        OunceLetters x = new OunceLetters();
        due("23: month 12", x.seen(12, 0, 0, 0), BAD);
        due("23: month -1", x.seen(-1, 0, 0, 0), BAD);
        due("23: house 8", x.seen(0, 8, 0, 0), BAD);
        due("23: house -1", x.seen(0, -1, 0, 0), BAD);
        due("23: letter 8", x.seen(0, 0, 8, 0), BAD);
        due("23: letter -1", x.seen(0, 0, -1, 0), BAD);
        due("23: 100", x.seen(0, 0, 0, 100), BAD);
        due("23: -1", x.seen(0, 0, 0, -1), BAD);
        due("23: none came", x.count(7), 0);
        for (int i = 1; i <= 8; i++) {
            due("23: one more", x.seen(11, 7, 7, 99), i);
        }
        due("23: the ninth", x.seen(0, 0, 0, 0), FULL);
        due("23: bad ahead of full", x.seen(0, 0, 0, 100), BAD);
        due("23: eight", x.count(7), 8);
    }

    private static void promise24() {
        OunceLetters x = Check.of("r1", "");
        due("24: none", x.forget(), 0);
        x.seen(0, 0, 0, 9);
        x.seen(0, 0, 1, 9);
        due("24: not so", x.got(2), 0);
        due("24: two", x.forget(), 2);
        due("24: none", x.count(7), 0);
        due("24: forgotten", x.got(2), 1023);
        due("24: none", x.forget(), 0);
        due("24: one again", x.seen(0, 0, 0, 2), 1);
    }

    private static void promise25() {
        OunceLetters x = Check.of("r1;m1", "b1;bb2;c3");
        due("25: no writings", x.never(), 0);
        x.writing(0, 0, 0);
        x.writing(0, 0, 1);
        x.writing(0, 0, 0);
        x.writing(0, 1, 2);
        x.writing(1, 0, 2);
        due("25: nothing was seen", x.never(), 31);
        x.seen(0, 0, 1, 0);
        due("25: without the third one b would be left", x.never(), 1 + 2 + 8 + 16);
        x.seen(0, 1, 2, 2);
        due("25: only one", x.never(), 8);
        x.forget();
        x.seen(0, 0, 1, 1);
        due("25: without the third alone one b is left", x.never(), 4);
        x.seen(1, 0, 2, 1);
        due("25: and so is a c", x.never(), 4);
        x.seen(1, 0, 2, 2);
        due("25: not both", x.never(), 0);
        x.forget();
        x.seen(1, 1, 2, 3);
        due("25: a miser would have kept one", x.never(), 8);
        x.seen(0, 2, 0, 0);
        due("25: a house that there is not", x.never(), 0);
        due("25: the writings stay", x.count(4), 5);
        due("25: what became stays", x.became(3), 1);
    }

    private static void promise26() {
        OunceLetters x = Check.of("r2;m1", "bbb1");
        due("26: letter 8", x.got(8), BAD);
        due("26: letter -1", x.got(-1), BAD);
        due("26: nothing was seen", x.got(0), 1023);
        x.seen(3, 0, 1, 6);
        due("26: three each", x.got(1), 8);
        due("26: of another letter none", x.got(0), 0);
        x.forget();
        x.writing(3, 0, 0);
        x.seen(3, 0, 1, 3);
        due("26: with a writing", x.got(1), 8);
        x.forget();
        x.seen(1, 1, 1, 4);
        due("26: a miser: 3 and 1", x.got(1), 8);
        x.seen(0, 0, 0, 4);
        due("26: another letter is so with any", x.got(1), 8);
        x.ration(0, 5);
        due("26: but not with five", x.got(1), 0);
        due("26: two of it were", x.got(0), 0);
        x.forget();
        x.seen(0, 0, 0, 4);
        due("26: two of it were", x.got(0), 4);
        due("26: the ration stays", x.ration(0, 5), 5);
        x.forget();
        x.seen(0, 0, 0, 0);
        due("26: zero", x.got(0), 1);
        x.forget();
        x.seen(0, 0, 0, 18);
        due("26: nine", x.got(0), 512);
        x.seen(0, 2, 0, 0);
        due("26: a house that there is not", x.got(0), 0);
        OunceLetters y = Check.of("r1", "bbb1");
        y.writing(0, 0, 0);
        y.seen(0, 0, 1, 2);
        due("26: two, or five less three", y.got(1), 4 + 32);
    }

    private static void promise27() {
        OunceLetters x = Check.of("r1;r1", "b1;c2;d3;bc4");
        due("27: month 12", x.ask(12, 0), BAD);
        due("27: month -1", x.ask(-1, 0), BAD);
        due("27: house 2", x.ask(0, 2), BAD);
        due("27: house -1", x.ask(0, -1), BAD);
        due("27: no writings, the least", x.ask(0, 0), 0);
        x.writing(0, 0, 2);
        due("27: one writing, the least", x.ask(0, 0), 0);
        x.writing(0, 0, 1);
        x.writing(0, 0, 1);
        x.writing(0, 0, 0);
        due("27: c parts them two by two", x.ask(0, 0), 2);
        due("27: another house is always alike", x.ask(0, 1), 0);
        due("27: another month is always alike", x.ask(1, 0), 0);
        x.back(0);
        due("27: of three, d parts as c does: the least", x.ask(0, 0), 2);
        x.back(0);
        due("27: of two, c and d part alike", x.ask(0, 0), 2);
        x.seen(0, 0, 3, 2);
        due("27: but one is left, the least", x.ask(0, 0), 0);
        x.forget();
        x.seen(0, 1, 3, 9);
        due("27: none is left, the least", x.ask(0, 0), 0);
        OunceLetters y = Check.of("r9;r1", "d1;c2;dd3");
        y.writing(0, 0, 1);
        y.writing(0, 0, 2);
        y.writing(0, 0, 0);
        y.writing(0, 0, 1);
        due("27: d leaves two alike, c two and two", y.ask(0, 0), 2);
        y.writing(0, 0, 0);
        due("27: d parts 1, 2, 2; c parts 2, 3", y.ask(0, 0), 3);
        y.writing(1, 1, 0);
        due("27: with one that has nothing to do with it", y.ask(0, 0), 3);
        y.seen(0, 0, 2, 16);
        due("27: of those that d leaves, d parts alone", y.ask(0, 0), 3);
        OunceLetters z = Check.of("r1;r9", "b1;c2;ab3;ac4");
        z.writing(0, 0, 0);
        z.writing(0, 1, 0);
        z.writing(0, 1, 2);
        z.writing(0, 1, 3);
        z.seen(0, 0, 1, 2);
        due("27: only the first is left, though others would part", z.ask(0, 1), 0);
    }

    private static void promise28() {
        OunceLetters x = Check.of("r1;r1", "bb1;b2");
        long bad = Long.MIN_VALUE + 2;
        due("28: c 17", x.censor(17, 0, 0, 0), bad);
        due("28: c -1", x.censor(-1, 0, 0, 0), bad);
        due("28: house 2", x.censor(0, 2, 0, 0), bad);
        due("28: house -1", x.censor(0, -1, 0, 0), bad);
        due("28: most 13", x.censor(0, 0, 13, 0), bad);
        due("28: most -1", x.censor(0, 0, -1, 0), bad);
        due("28: what 2", x.censor(0, 0, 0, 2), bad);
        due("28: what -1", x.censor(0, 0, 0, -1), bad);
        fraction(x, 3, 0, 0, 1, 1);
        for (int i = 0; i < 12; i++) {
            x.writing(0, 0, 0);
        }
        fraction(x, 0, 0, 0, 1, 1);
        fraction(x, 16, 0, 10, 0, 1);
        fraction(x, 16, 0, 11, 1, 1);
        fraction(x, 16, 0, 12, 1, 1);
        fraction(x, 8, 0, 0, 13, 4096);
        fraction(x, 8, 0, 10, 4095, 4096);
        fraction(x, 8, 1, 0, 1, 1);
        long below = 1L << 48;
        long none = 15L * 15 * 15 * 15 * 15 * 15 * 15 * 15 * 15 * 15 * 15;
        fraction(x, 1, 0, 0, none * (15 + 12), below);
        for (int i = 0; i < 10; i++) {
            x.back(0);
        }
        x.writing(0, 0, 1);
        fraction(x, 4, 0, 0, 27, 32);
        fraction(x, 4, 0, 1, 63, 64);
    }

    /** What a miser wrote in one month may be lacking to another house in the next. */
    private static void promise28Misers() {
        OunceLetters x = Check.of("m1;r1", "b1;bbb2;bb3");
        x.writing(0, 0, 0);
        x.writing(1, 1, 1);
        x.writing(1, 5, 1);
        x.writing(1, 1, 6);
        fraction(x, 8, 1, 0, 1, 2);
        x.ration(1, 1);
        x.lending(1, 0, 1, 1);
        x.lending(1, 0, 1, 1);
        x.back(0);
        x.back(0);
        x.back(0);
        x.writing(0, 0, 0);
        x.writing(1, 1, 1);
        fraction(x, 8, 1, 0, 1, 2);
        OunceLetters y = Check.of("m2;r1", "b1;bbb2");
        y.ration(1, 1);
        y.writing(0, 0, 0);
        y.writing(1, 1, 1);
        y.lending(1, 0, 1, 1);
        y.lending(1, 0, 1, 1);
        y.lending(1, 0, 1, 1);
        fraction(y, 4, 1, 0, 1, 1);
        y.lending(1, 1, 0, 1);
        fraction(y, 4, 1, 0, 15, 16);
    }

    private static void fraction(OunceLetters x, int c, int house, int most, long above, long below) {
        String what = "28: censor(" + c + ", " + house + ", " + most + ")";
        due(what + " above", x.censor(c, house, most, 0), above);
        due(what + " below", x.censor(c, house, most, 1), below);
    }

    /** The lots of a seed, drawn as the document tells it. */
    private static int[] lots(int seed, int months, int houses, int terms) {
        int[] row = new int[2 * months];
        int s = seed;
        for (int i = 0; i < row.length; i++) {
            s = 1103515245 * s + 12345;
            row[i] = (int) ((s & 0xffffffffL) / 65536 % (i % 2 == 0 ? houses : terms));
        }
        return row;
    }

    private static void promise29() {
        OunceLetters x = Check.of("r1;m2;v3", "b1;cc2;ahhhhh3;e4");
        due("29: month 12", x.post(1, 12, NONE), BAD);
        due("29: month -1", x.post(1, -1, NONE), BAD);
        due("29: house 3", x.post(1, 0, 3), BAD);
        due("29: house -2", x.post(1, 0, -2), BAD);
        for (int seed : new int[] {0, 1, 7, -1, Integer.MIN_VALUE, Integer.MAX_VALUE, 123456789}) {
            for (int month = 0; month < 12; month++) {
                OunceLetters y = Check.of("r1;m2;v3", "b1;cc2;ahhhhh3;e4");
                int[] row = lots(seed, month + 1, 3, 4);
                int written = 0;
                for (int m = 0; m <= month; m++) {
                    y.writing(m, row[2 * m], row[2 * m + 1]);
                    int became = y.became(m);
                    written += became == 1 || became == 2 ? 1 : 0;
                }
                due("29: written, seed " + seed, x.post(seed, month, NONE), written);
                for (int house = 0; house < 3; house++) {
                    due("29: letters, seed " + seed, x.post(seed, month, house), y.has(month, house, NONE));
                }
            }
        }
        due("29: no writing stays", x.count(4), 0);
        OunceLetters full = Check.of("r1", "bb1");
        for (int i = 0; i < 12; i++) {
            full.writing(i, 0, 0);
        }
        due("29: behind those told, even of twelve", full.post(5, 11, NONE), 0);
        full.back(0);
        due("29: one month is free", full.post(5, 11, NONE), 1);
        due("29: letters", full.post(5, 11, 0), 14);
        OunceLetters none = Check.of("r1", "");
        due("29: no terms, no lots", none.post(5, 11, NONE), 0);
        due("29: letters", none.post(5, 11, 0), 16);
        due("29: no houses, no lots", Check.of("", "a1").post(5, 11, NONE), 0);
    }
}
