/** Promises 30 to 37: sheets, count, digest. */
public final class SheetPromisesTest {
    private static final int BAD = -2;
    private static final int NULL = -11, INDEX = -12, CAST = -13, STORE = -14, SIZE = -15;
    private static final int LEAST = Integer.MIN_VALUE;

    public static void main(String[] args) {
        promise30();
        promise31();
        promise32();
        promise33();
        promise34();
        promise34Refusals();
        promise35();
        promise36();
        promise37();
        promise37Full();
        Check.end("SheetPromisesTest");
    }

    private static void due(String what, long got, long want) {
        Check.due(what, got, want);
    }

    private static void promise30() {
        OunceLetters x = new OunceLetters();
        due("30: sheet 4", x.sheet(4, 0, 1), BAD);
        due("30: sheet -1", x.sheet(-1, 0, 1), BAD);
        due("30: form 3", x.sheet(0, 3, 1), BAD);
        due("30: form -1", x.sheet(0, -1, 1), BAD);
        due("30: 61 items", x.sheet(0, 0, 61), BAD);
        due("30: bad ahead of size", x.sheet(0, 3, -1), BAD);
        due("30: no finding", x.count(8), 0);
        due("30: below 0", x.sheet(0, 0, -1), SIZE);
        due("30: the least", x.sheet(0, 0, LEAST), SIZE);
        due("30: finding", x.count(8), 5);
        due("30: still lost", x.lose(0), NULL);
        for (int s = 0; s < 4; s++) {
            due("30: 60 items", x.sheet(s, s % 3, 60), 60);
            due("30: 0 at first", x.get(s, s % 3, 59), 0);
        }
        x.lay(0, 0, 5, 77);
        due("30: size changes nothing", x.sheet(0, 1, -5), SIZE);
        due("30: size changes nothing", x.get(0, 0, 5), 77);
        due("30: a new row", x.sheet(0, 0, 6), 6);
        due("30: 0 again", x.get(0, 0, 5), 0);
        due("30: no items", x.sheet(0, 2, 0), 0);
        due("30: it is not lost", x.lose(0), 0);
    }

    private static void promise31() {
        OunceLetters x = new OunceLetters();
        due("31: sheet 4", x.lose(4), BAD);
        due("31: sheet -1", x.lose(-1), BAD);
        due("31: no finding", x.count(8), 0);
        due("31: lost", x.lose(3), NULL);
        due("31: finding", x.count(8), 1);
        x.sheet(3, 1, 17);
        due("31: how many", x.lose(3), 17);
        due("31: lost", x.lose(3), NULL);
        x.sheet(2, 1, 0);
        due("31: none", x.lose(2), 0);
        due("31: lost", x.lose(2), NULL);
    }

    private static void promise32() {
        OunceLetters x = new OunceLetters();
        due("32: sheet 4", x.lay(4, 0, 0, 0), BAD);
        due("32: sheet -1", x.lay(-1, 0, 0, 0), BAD);
        due("32: form 3 ahead of lost", x.lay(0, 3, 0, 0), BAD);
        due("32: form -1", x.lay(0, -1, 0, 0), BAD);
        due("32: no finding", x.count(8), 0);
        due("32: lost", x.lay(0, 0, 0, 0), NULL);
        due("32: finding", x.count(8), 1);
        x.sheet(0, 0, 3);
        due("32: cast ahead of index", x.lay(0, 1, 9, 0), CAST);
        due("32: finding", x.count(8), 3);
        due("32: index 3", x.lay(0, 0, 3, 0), INDEX);
        due("32: finding", x.count(8), 2);
        due("32: index -1", x.lay(0, 0, -1, 0), INDEX);
        due("32: the least index", x.lay(0, 0, LEAST, 0), INDEX);
        due("32: a byte", x.lay(0, 0, 2, 0x1ff), 1);
        due("32: its lowest bits", x.get(0, 0, 2), -1);
        x.lay(0, 0, 1, 128);
        due("32: its lowest bits", x.get(0, 0, 1), -128);
        due("32: others stay", x.get(0, 0, 0), 0);
        x.sheet(1, 1, 1);
        due("32: a short", x.lay(1, 1, 0, 0x18000), 1);
        due("32: its lowest bits", x.get(1, 1, 0), -32768);
        x.sheet(2, 2, 1);
        due("32: an int", x.lay(2, 2, 0, 0x7fffffff), 1);
        due("32: whole", x.get(2, 2, 0), Integer.MAX_VALUE);
        due("32: the latest finding stays", x.count(8), 2);
    }

    private static void promise33() {
        OunceLetters x = new OunceLetters();
        due("33: sheet 4", x.get(4, 0, 0), LEAST);
        due("33: sheet -1", x.get(-1, 0, 0), LEAST);
        due("33: form 3", x.get(0, 3, 0), LEAST);
        due("33: form -1", x.get(0, -1, 0), LEAST);
        due("33: bad is no finding", x.count(8), 0);
        due("33: lost", x.get(0, 0, 0), LEAST);
        due("33: finding", x.count(8), 1);
        x.sheet(0, 1, 2);
        x.lay(0, 1, 1, -7);
        due("33: item", x.get(0, 1, 1), -7);
        due("33: cast ahead of index", x.get(0, 2, 2), LEAST);
        due("33: finding", x.count(8), 3);
        due("33: index", x.get(0, 1, 2), LEAST);
        due("33: finding", x.count(8), 2);
        due("33: index -1", x.get(0, 1, -1), LEAST);
        due("33: bad is no finding", x.get(9, 1, -1), LEAST);
        due("33: the latest stays", x.count(8), 2);
    }

    private static void fill(OunceLetters x, int s, int form, int n) {
        x.sheet(s, form, n);
        for (int i = 0; i < n; i++) {
            x.lay(s, form, i, 10 + i);
        }
    }

    private static void promise34() {
        OunceLetters x = new OunceLetters();
        fill(x, 0, 1, 5);
        due("34: forward over itself", x.copy(0, 0, 0, 1, 4), 1);
        int[] forward = {10, 10, 11, 12, 13};
        for (int i = 0; i < 5; i++) {
            due("34: as they were", x.get(0, 1, i), forward[i]);
        }
        fill(x, 0, 1, 5);
        due("34: backward over itself", x.copy(0, 2, 0, 0, 3), 1);
        int[] backward = {12, 13, 14, 13, 14};
        for (int i = 0; i < 5; i++) {
            due("34: as they were", x.get(0, 1, i), backward[i]);
        }
        x.sheet(3, 1, 3);
        due("34: to another", x.copy(0, 0, 3, 1, 2), 1);
        due("34: not ahead", x.get(3, 1, 0), 0);
        due("34: first", x.get(3, 1, 1), 12);
        due("34: second", x.get(3, 1, 2), 13);
        due("34: none, at the ends", x.copy(0, 5, 3, 3, 0), 1);
        x.sheet(1, 1, 0);
        due("34: none of none", x.copy(1, 0, 1, 0, 0), 1);
        due("34: the source stays", x.get(0, 1, 0), 12);
    }

    private static void promise34Refusals() {
        OunceLetters x = new OunceLetters();
        due("34: sheet s", x.copy(4, 0, 0, 0, 0), BAD);
        due("34: sheet s", x.copy(-1, 0, 0, 0, 0), BAD);
        due("34: sheet t", x.copy(0, 0, 4, 0, 0), BAD);
        due("34: sheet t", x.copy(0, 0, -1, 0, 0), BAD);
        due("34: no finding", x.count(8), 0);
        due("34: s is lost", x.copy(0, 0, 1, 0, 0), NULL);
        x.sheet(0, 1, 5);
        due("34: t is lost", x.copy(0, -1, 1, 0, 0), NULL);
        due("34: s is lost", x.copy(1, 0, 0, 0, 0), NULL);
        due("34: finding", x.count(8), 1);
        x.sheet(1, 2, 5);
        due("34: store ahead of index", x.copy(0, -1, 1, 0, 9), STORE);
        due("34: finding", x.count(8), 4);
        fill(x, 0, 1, 5);
        x.sheet(1, 1, 3);
        due("34: i below 0", x.copy(0, -1, 1, 0, 1), INDEX);
        due("34: finding", x.count(8), 2);
        due("34: j below 0", x.copy(0, 0, 1, -1, 1), INDEX);
        due("34: n below 0", x.copy(0, 0, 1, 0, -1), INDEX);
        due("34: not so many in s", x.copy(1, 1, 0, 0, 3), INDEX);
        due("34: not so many in t", x.copy(0, 0, 1, 0, 4), INDEX);
        due("34: i beyond the end, none", x.copy(0, 6, 1, 0, 0), INDEX);
        due("34: j beyond the end, none", x.copy(0, 0, 1, 4, 0), INDEX);
        due("34: no wrap", x.copy(0, 1, 1, 1, Integer.MAX_VALUE), INDEX);
        due("34: no wrap", x.copy(0, Integer.MAX_VALUE, 1, 0, 1), INDEX);
        due("34: no wrap", x.copy(0, 0, 1, Integer.MAX_VALUE, 1), INDEX);
        due("34: no wrap", x.copy(0, LEAST, 1, LEAST, LEAST), INDEX);
        for (int i = 0; i < 3; i++) {
            due("34: nothing came", x.get(1, 1, i), 0);
        }
    }

    private static void promise35() {
        OunceLetters x = Check.of("r1;m9", "ab1");
        due("35: month 12", x.write(12, 0, 0), BAD);
        due("35: month -1", x.write(-1, 0, 0), BAD);
        due("35: house 2", x.write(0, 2, 0), BAD);
        due("35: house -1", x.write(0, -1, 0), BAD);
        due("35: sheet 4", x.write(0, 0, 4), BAD);
        due("35: sheet -1", x.write(0, 0, -1), BAD);
        due("35: no finding", x.count(8), 0);
        due("35: lost", x.write(0, 0, 0), NULL);
        due("35: finding", x.count(8), 1);
        for (int letter = 0; letter < 8; letter++) {
            x.ration(letter, letter);
        }
        x.ration(7, 9);
        x.writing(1, 0, 0);
        x.sheet(0, 2, 10);
        x.lay(0, 2, 8, 55);
        due("35: eight at most", x.write(11, 1, 0), 8);
        due("35: letter 0", x.get(0, 2, 0), 0);
        due("35: letter 7", x.get(0, 2, 7), 161);
        due("35: no more", x.get(0, 2, 8), 55);
        x.sheet(1, 0, 9);
        due("35: bytes", x.write(11, 1, 1), 8);
        due("35: the lowest bits", x.get(1, 0, 7), 161 - 256);
        due("35: the same as has", x.get(1, 0, 3), x.has(11, 1, 3));
        x.sheet(2, 1, 3);
        x.ration(0, 1);
        due("35: as many as there are", x.write(1, 0, 2), 3);
        due("35: spent", x.get(2, 1, 0), 0);
        due("35: spent", x.get(2, 1, 1), 0);
        due("35: not spent", x.get(2, 1, 2), 2);
        due("35: another month", x.write(2, 0, 2), 3);
        due("35: another month", x.get(2, 1, 0), 1);
        x.sheet(2, 1, 0);
        due("35: none", x.write(1, 0, 2), 0);
    }

    private static void promise36() {
        OunceLetters x = Check.of("r1;m2", "bbb1;a2;c3");
        x.writing(0, 0, 0);
        x.writing(0, 1, 1);
        x.writing(1, 0, 0);
        x.writing(1, 7, 0);
        x.lending(0, 0, 1, 5);
        x.seen(0, 0, 0, 0);
        x.seen(0, 0, 0, 0);
        int[] want = {2, 3, 5, 10, 4, 1, 2, 2, 0};
        for (int what = 0; what < 9; what++) {
            due("36: count " + what, x.count(what), want[what]);
        }
        due("36: 9", x.count(9), BAD);
        due("36: -1", x.count(-1), BAD);
        x.type(0, ';');
        due("36: with a fault no houses", x.count(0), 0);
        due("36: but bytes", x.count(2), 6);
        due("36: and no fines", x.count(6), 0);
        x.lose(0);
        due("36: the latest finding", x.count(8), 1);
        x.sheet(0, 0, -1);
        due("36: the latest finding", x.count(8), 5);
    }

    /** Nothing is left free: eight houses, eight terms, twelve writings, eight lendings, eight seen. */
    private static void promise37Full() {
        OunceLetters x = Check.of("r1;m2;v3;r4;m5;v6;r7;m9", "abc1;bcd2;cde3;def4;efg5;fgh6;gha7;habcd8");
        for (int i = 0; i < 12; i++) {
            x.writing(11 - i, i % 8, i * 3 % 8);
        }
        for (int i = 0; i < 8; i++) {
            x.lending(11, i, (i + 1) % 8, i);
        }
        due("37: with nothing seen", x.digest(), Calls.digestOf(x));
        for (int i = 0; i < 8; i++) {
            x.seen(11, 7, 7, x.has(11, 7, 7));
        }
        for (int s = 0; s < 4; s++) {
            due("37: a full sheet", x.sheet(s, s % 3, 60), 60);
            due("37: eight items", x.write(11, 7, s), 8);
            due("37: no room for a writing", x.read(s), 0);
            due("37: over itself", x.copy(s, 0, s, 52, 8), 1);
        }
        int[] want = {8, 8, 23, 41, 12, 8};
        for (int what = 0; what < 6; what++) {
            due("37: count of a full object " + what, x.count(what), want[what]);
        }
        due("37: eight seen", x.count(7), 8);
        Check.due("37: all was seen as it is without some", x.never() > 0 && x.never() < 4096);
        due("37: full", x.digest(), Calls.digestOf(x));
    }

    private static void promise37() {
        OunceLetters x = new OunceLetters();
        due("37: of a new object", x.digest(), Calls.digestOf(x));
        x = Check.of("r1;m2;v1", "abc1;bd1;eeb2;h0");
        for (int i = 0; i < 12; i++) {
            x.writing(i / 3, i % 4, i % 5);
            due("37: with writings", x.digest(), Calls.digestOf(x));
        }
        x.lending(1, 1, 2, 0);
        x.seen(2, 1, 1, 3);
        x.ration(1, 1);
        due("37: with all", x.digest(), Calls.digestOf(x));
        long before = x.digest();
        due("37: it changes nothing", x.digest(), before);
        x.lose(0);
        due("37: findings do not count", x.digest(), before);
        x.type(1, 'x');
        due("37: with a fault", x.digest(), Calls.digestOf(x));
        Check.due("37: a fault shows", x.digest() != before);
        x = Check.of("r1;r2;v3", "bbc1;bbb1;cb2;ddb3;cc1;bd0;d4;c5");
        for (int i = 0; i < 12; i++) {
            x.writing(3, i % 3, i * 3 % 8);
        }
        Check.due("37: fines", x.fines(0) > 0);
        Check.due("37: something to ask", x.ask(3, 2) > 0);
        Check.due("37: a chance", x.censor(5, 0, 1, 0) > 1 && x.censor(5, 0, 1, 0) != x.censor(5, 0, 2, 0));
        Check.due("37: papers", x.papers(0, 0) != x.papers(0, 1));
        due("37: with fines and chances", x.digest(), Calls.digestOf(x));
        for (int letter = 0; letter < 8; letter++) {
            x.ration(letter, letter == 2 ? 1 : 0);
        }
        x.wipe(1);
        Check.type(x, 1, "c1");
        x.back(0);
        x.writing(2, 0, 0);
        Check.due("37: bare", x.bare(0) == 2 && x.bare(1) == 0);
        due("37: with a bare house", x.digest(), Calls.digestOf(x));
    }
}
