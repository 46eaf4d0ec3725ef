/** Promises 1 to 12: a new object, texts, houses, words, rations, writings, lendings. */
public final class TextPromisesTest {
    private static final int NONE = -1, BAD = -2, NOT = -3, FULL = -4;
    private static final String EIGHT = "r1;m2;v3;r4;m5;v6;r7;m8";

    public static void main(String[] args) {
        promise1();
        promise2();
        promise3();
        promise4();
        promise5();
        promise6();
        promise7();
        promise8();
        promise9();
        promise10();
        promise11();
        promise12();
        Check.end("TextPromisesTest");
    }

    private static void due(String what, long got, long want) {
        Check.due(what, got, want);
    }

    private static void promise1() {
        OunceLetters x = new OunceLetters();
        for (int what = 0; what < 9; what++) {
            due("1: count of a new object " + what, x.count(what), 0);
        }
        for (int letter = 0; letter < 8; letter++) {
            due("1: ration at first", x.ration(letter, 2), 2);
        }
        for (int s = 0; s < 4; s++) {
            due("1: sheets are lost", x.lose(s), -11);
        }
        due("1: no houses", x.house(0, 0), BAD);
        due("1: no terms", x.word(0, 0), BAD);
        due("1: two objects share nothing", new OunceLetters().type(0, 'r') + x.count(2), 1);
    }

    private static void promise2() {
        OunceLetters x = new OunceLetters();
        due("2: text -1", x.type(-1, 'r'), BAD);
        due("2: text 2", x.type(2, 'r'), BAD);
        due("2: byte -1", x.type(0, -1), BAD);
        due("2: byte 256", x.type(0, 256), BAD);
        due("2: nothing came", x.count(2) + x.count(3), 0);
        for (int i = 1; i <= 23; i++) {
            due("2: houses", x.type(0, i % 2 == 0 ? 0 : 255), i);
        }
        due("2: houses are full", x.type(0, 'r'), FULL);
        due("2: bad ahead of full", x.type(0, 256), BAD);
        due("2: bytes of text 0", x.count(2), 23);
        for (int i = 1; i <= 55; i++) {
            due("2: terms", x.type(1, 'a'), i);
        }
        due("2: terms are full", x.type(1, 'a'), FULL);
        due("2: bad ahead of full", x.type(1, -1), BAD);
        due("2: bytes of text 1", x.count(3), 55);
    }

    private static void promise3() {
        OunceLetters x = Check.of("r1;m2", "ab1");
        due("3: text 2", x.wipe(2), BAD);
        due("3: text -1", x.wipe(-1), BAD);
        due("3: houses stay", x.count(0), 2);
        due("3: wipe houses", x.wipe(0), 5);
        due("3: none left", x.count(0) + x.count(2), 0);
        due("3: terms stay", x.count(1), 1);
        due("3: wipe an empty one", x.wipe(0), 0);
        due("3: wipe terms", x.wipe(1), 3);
        due("3: no terms", x.count(1), 0);
        Check.type(x, 1, "zz");
        due("3: wipe one with a fault", x.wipe(1), 2);
        due("3: well again", x.fault(1), NONE);
    }

    private static void promise4() {
        OunceLetters x = Check.of("r1;", "a");
        due("4: text 2", x.undo(2), BAD);
        due("4: text -1", x.undo(-1), BAD);
        due("4: undo ;", x.undo(0), 2);
        due("4: a house again", x.count(0), 1);
        due("4: undo 1", x.undo(0), 1);
        due("4: undo r", x.undo(0), 0);
        due("4: empty", x.undo(0), NOT);
        due("4: the other text stays", x.count(3), 1);
        due("4: undo a", x.undo(1), 0);
        due("4: empty", x.undo(1), NOT);
        due("4: still empty", x.count(2) + x.count(3), 0);
    }

    private static void fault(int text, String bytes, int want) {
        OunceLetters x = new OunceLetters();
        Check.type(x, text, bytes);
        due("5: fault of '" + bytes + "'", x.fault(text), want);
        due("5: the other text is well", x.fault(1 - text), NONE);
        if (want != NONE) {
            due("5: with a fault as if empty '" + bytes + "'", x.count(text), 0);
            due("5: its bytes stay '" + bytes + "'", x.count(2 + text), bytes.length());
        }
    }

    private static void promise5() {
        due("5: text 2", new OunceLetters().fault(2), BAD);
        due("5: text -1", new OunceLetters().fault(-1), BAD);
        fault(0, "", NONE);
        fault(0, "r", 1);
        fault(0, "r1", NONE);
        fault(0, "m9", NONE);
        fault(0, "r0", 1);
        fault(0, "r:", 1);
        fault(0, "r/", 1);
        fault(0, "r12", 2);
        fault(0, "r1;", 3);
        fault(0, "r1;;", 3);
        fault(0, ";", 0);
        fault(0, "x", 0);
        fault(0, "R1", 0);
        fault(0, "1r", 0);
        fault(0, "r1m2", 2);
        fault(0, "rr", 1);
        fault(0, "r1;m", 4);
        fault(0, "r1 ;m2", 2);
        fault(0, "r1;m2;v3", NONE);
        fault(0, "x1;m2", 0);
        fault(0, EIGHT, NONE);
        fault(0, EIGHT.substring(0, 22), 22);
        fault(0, "" + (char) 255, 0);
        fault(0, "r" + (char) 0, 1);
        fault(1, "", NONE);
        fault(1, "a", 1);
        fault(1, "a0", NONE);
        fault(1, "h9", NONE);
        fault(1, "i0", 0);
        fault(1, "`0", 0);
        fault(1, "A0", 0);
        fault(1, "0", 0);
        fault(1, ";", 0);
        fault(1, "a:", 1);
        fault(1, "a/", 1);
        fault(1, "a;", 1);
        fault(1, "ai", 1);
        fault(1, "a00", 2);
        fault(1, "a0b", 2);
        fault(1, "a0;", 3);
        fault(1, "a0;;", 3);
        fault(1, "a0;1", 3);
        fault(1, "abcdef", 6);
        fault(1, "abcdef7", NONE);
        fault(1, "abcdefg", 6);
        fault(1, "abcdefg7", 6);
        fault(1, "b0;hhhhhhh", 9);
        String eight = "a1;b2;c3;d4;e5;f6;g7;h8";
        fault(1, eight, NONE);
        fault(1, eight + ";", 24);
        fault(1, eight + ";a", 24);
        fault(1, eight + ";a1", 24);
        fault(1, eight + ";x", 24);
        fault(1, eight + "9", 23);
    }

    private static void promise6() {
        OunceLetters x = Check.of(EIGHT, "");
        int[] kinds = {0, 1, 2, 0, 1, 2, 0, 1};
        for (int house = 0; house < 8; house++) {
            due("6: kind", x.house(house, 0), kinds[house]);
            due("6: heads", x.house(house, 1), house + 1);
        }
        due("6: house 8", x.house(8, 0), BAD);
        due("6: house -1", x.house(-1, 0), BAD);
        due("6: what 2", x.house(0, 2), BAD);
        due("6: what -1", x.house(0, -1), BAD);
        x.undo(0);
        due("6: with a fault none", x.house(0, 0), BAD);
        x.wipe(0);
        Check.type(x, 0, "v9");
        due("6: another text", x.house(0, 0), 2);
        due("6: another text", x.house(0, 1), 9);
        due("6: no second one", x.house(1, 0), BAD);
    }

    private static void promise7() {
        OunceLetters x = Check.of("", "abacad3;h0;eeghhb9");
        int[][] want = {{3, 1, 1, 1, 0, 0, 0, 0, 3, 6}, {0, 0, 0, 0, 0, 0, 0, 1, 0, 1}, {0, 1, 0, 0, 2, 0, 1, 2, 9, 6}};
        for (int word = 0; word < 3; word++) {
            for (int what = 0; what < 10; what++) {
                due("7: word " + word + " " + what, x.word(word, what), want[word][what]);
            }
        }
        due("7: what 10", x.word(0, 10), BAD);
        due("7: what -1", x.word(0, -1), BAD);
        due("7: word 3", x.word(3, 0), BAD);
        due("7: word -1", x.word(-1, 0), BAD);
        x.type(1, ';');
        due("7: with a fault none", x.word(0, 0), BAD);
        x.wipe(1);
        Check.type(x, 1, "b2");
        due("7: another text", x.word(0, 0), 0);
        due("7: another text", x.word(0, 1), 1);
        due("7: another text", x.word(0, 9), 1);
    }

    private static void promise8() {
        OunceLetters x = Check.of("r3", "");
        due("8: letter 8", x.ration(8, 1), BAD);
        due("8: letter -1", x.ration(-1, 1), BAD);
        due("8: ration 10", x.ration(0, 10), BAD);
        due("8: ration -1", x.ration(0, -1), BAD);
        due("8: a refusal changes nothing", x.has(0, 0, 0), 6);
        for (int letter = 0; letter < 8; letter++) {
            due("8: was", x.ration(letter, letter), 2);
            due("8: is", x.has(0, 0, letter), 3 * letter);
        }
        due("8: was", x.ration(7, 9), 7);
        due("8: was", x.ration(7, 0), 9);
        due("8: is", x.has(0, 0, 7), 0);
    }

    private static void promise9() {
        OunceLetters x = new OunceLetters();
        due("9: month 12", x.writing(12, 0, 0), BAD);
        due("9: month -1", x.writing(-1, 0, 0), BAD);
        due("9: house 8", x.writing(0, 8, 0), BAD);
        due("9: house -1", x.writing(0, -1, 0), BAD);
        due("9: word 8", x.writing(0, 0, 8), BAD);
        due("9: word -1", x.writing(0, 0, -1), BAD);
        due("9: none came", x.count(4), 0);
        for (int i = 1; i <= 12; i++) {
            due("9: a writing more", x.writing(12 - i, i % 8, 7), i);
        }
        due("9: the thirteenth", x.writing(0, 0, 0), FULL);
        due("9: bad ahead of full", x.writing(12, 0, 0), BAD);
        due("9: twelve", x.count(4), 12);
    }

    private static void promise10() {
        OunceLetters x = new OunceLetters();
        due("10: month 12", x.lending(12, 0, 1, 0), BAD);
        due("10: month -1", x.lending(-1, 0, 1, 0), BAD);
        due("10: house 8", x.lending(0, 8, 1, 0), BAD);
        due("10: house -1", x.lending(0, -1, 1, 0), BAD);
        due("10: to 8", x.lending(0, 0, 8, 0), BAD);
        due("10: to -1", x.lending(0, 0, -1, 0), BAD);
        due("10: letter 8", x.lending(0, 0, 1, 8), BAD);
        due("10: letter -1", x.lending(0, 0, 1, -1), BAD);
        due("10: to itself", x.lending(0, 3, 3, 0), BAD);
        due("10: none came", x.count(5), 0);
        for (int i = 1; i <= 8; i++) {
            due("10: a lending more", x.lending(11, i - 1, i % 8, 7), i);
        }
        due("10: the ninth", x.lending(0, 0, 1, 0), FULL);
        due("10: bad ahead of full", x.lending(0, 1, 1, 0), BAD);
        due("10: eight", x.count(5), 8);
    }

    private static void promise11() {
        OunceLetters x = Check.of("r1;r1", "a1;b1");
        due("11: what 2", x.back(2), BAD);
        due("11: what -1", x.back(-1), BAD);
        due("11: no writing", x.back(0), NOT);
        due("11: no lending", x.back(1), NOT);
        x.writing(0, 0, 0);
        x.writing(0, 0, 1);
        x.lending(0, 0, 1, 0);
        x.lending(0, 0, 1, 1);
        due("11: both count", x.has(0, 0, 1), 0);
        due("11: the last writing", x.back(0), 1);
        due("11: it is undone", x.has(0, 0, 1), 1);
        due("11: the first stays", x.has(0, 0, 0), 0);
        due("11: lendings stay", x.count(5), 2);
        due("11: the last lending", x.back(1), 1);
        due("11: it is undone", x.has(0, 0, 1), 2);
        due("11: the first stays", x.has(0, 1, 0), 3);
        due("11: the first lending", x.back(1), 0);
        due("11: the first writing", x.back(0), 0);
        due("11: none", x.back(0), NOT);
        due("11: none", x.back(1), NOT);
    }

    private static void lay(OunceLetters x, int s, int form, int... items) {
        x.sheet(s, form, items.length);
        for (int i = 0; i < items.length; i++) {
            x.lay(s, form, i, items[i]);
        }
    }

    private static void promise12() {
        OunceLetters x = Check.of("r1", "a1;b1");
        due("12: sheet 4", x.read(4), BAD);
        due("12: sheet -1", x.read(-1), BAD);
        due("12: no finding", x.count(8), 0);
        due("12: lost", x.read(0), -11);
        due("12: finding", x.count(8), 1);
        lay(x, 0, 0, 0, 0, 0, 1, 0, 1, 5, 5);
        due("12: before", x.has(0, 0, 0), 2);
        due("12: two are whole", x.read(0), 2);
        due("12: they came", x.count(4), 2);
        due("12: as told", x.has(0, 0, 0), 1);
        due("12: as told", x.has(1, 0, 1), 1);
        lay(x, 1, 2, 11, 7, 7, 0, 0, 8, 0, 0, 0);
        due("12: behind those that are there, up to one that may not be", x.read(1), 1);
        due("12: three", x.count(4), 3);
        lay(x, 1, 1, 0, 0, -1, 0, 0, 0);
        due("12: the first may not be", x.read(1), 0);
        lay(x, 1, 1, 12, 0, 0);
        due("12: month 12", x.read(1), 0);
        lay(x, 1, 1, 0, 8, 0);
        due("12: house 8", x.read(1), 0);
        x.sheet(2, 2, 0);
        due("12: no items", x.read(2), 0);
        x.sheet(2, 2, 2);
        due("12: none is whole", x.read(2), 0);
        x.sheet(2, 2, 3);
        due("12: one is whole", x.read(2), 1);
        due("12: and undone", x.back(0), 3);
        x.sheet(2, 2, 60);
        due("12: as long as there is room", x.read(2), 9);
        due("12: twelve", x.count(4), 12);
        due("12: full", x.read(2), 0);
        due("12: the sheet stays", x.lose(2), 60);
    }
}
