/** Calls by their names, of the class and of the model. */
final class Calls {
    private Calls() {
    }

    static long on(OunceLetters x, String name, int... a) {
        return switch (name) {
            case "type" -> x.type(a[0], a[1]);
            case "wipe" -> x.wipe(a[0]);
            case "undo" -> x.undo(a[0]);
            case "fault" -> x.fault(a[0]);
            case "house" -> x.house(a[0], a[1]);
            case "word" -> x.word(a[0], a[1]);
            case "ration" -> x.ration(a[0], a[1]);
            case "writing" -> x.writing(a[0], a[1], a[2]);
            case "lending" -> x.lending(a[0], a[1], a[2], a[3]);
            case "back" -> x.back(a[0]);
            case "read" -> x.read(a[0]);
            case "has" -> x.has(a[0], a[1], a[2]);
            case "became" -> x.became(a[0]);
            case "fines" -> x.fines(a[0]);
            case "spent" -> x.spent(a[0]);
            case "bare" -> x.bare(a[0]);
            case "say" -> x.say(a[0], a[1], a[2]);
            case "most" -> x.most(a[0], a[1], a[2]);
            case "papers" -> x.papers(a[0], a[1]);
            case "lend" -> x.lend(a[0]);
            case "meant" -> x.meant(a[0]);
            case "seen" -> x.seen(a[0], a[1], a[2], a[3]);
            case "forget" -> x.forget();
            case "never" -> x.never();
            case "got" -> x.got(a[0]);
            case "ask" -> x.ask(a[0], a[1]);
            case "censor" -> x.censor(a[0], a[1], a[2], a[3]);
            case "post" -> x.post(a[0], a[1], a[2]);
            case "sheet" -> x.sheet(a[0], a[1], a[2]);
            case "lose" -> x.lose(a[0]);
            case "lay" -> x.lay(a[0], a[1], a[2], a[3]);
            case "get" -> x.get(a[0], a[1], a[2]);
            case "copy" -> x.copy(a[0], a[1], a[2], a[3], a[4]);
            case "write" -> x.write(a[0], a[1], a[2]);
            case "count" -> x.count(a[0]);
            case "digest" -> x.digest();
            default -> throw new IllegalArgumentException("no call " + name);
        };
    }

    static long on(Model x, String name, int... a) {
        return switch (name) {
            case "type" -> x.type(a[0], a[1]);
            case "wipe" -> x.wipe(a[0]);
            case "undo" -> x.undo(a[0]);
            case "fault" -> x.fault(a[0]);
            case "house" -> x.house(a[0], a[1]);
            case "word" -> x.word(a[0], a[1]);
            case "ration" -> x.ration(a[0], a[1]);
            case "writing" -> x.writing(a[0], a[1], a[2]);
            case "lending" -> x.lending(a[0], a[1], a[2], a[3]);
            case "back" -> x.back(a[0]);
            case "read" -> x.read(a[0]);
            case "has" -> x.has(a[0], a[1], a[2]);
            case "became" -> x.became(a[0]);
            case "fines" -> x.fines(a[0]);
            case "spent" -> x.spent(a[0]);
            case "bare" -> x.bare(a[0]);
            case "say" -> x.say(a[0], a[1], a[2]);
            case "most" -> x.most(a[0], a[1], a[2]);
            case "papers" -> x.papers(a[0], a[1]);
            case "lend" -> x.lend(a[0]);
            case "meant" -> x.meant(a[0]);
            case "seen" -> x.seen(a[0], a[1], a[2], a[3]);
            case "forget" -> x.forget();
            case "never" -> x.never();
            case "got" -> x.got(a[0]);
            case "ask" -> x.ask(a[0], a[1]);
            case "censor" -> x.censor(a[0], a[1], a[2], a[3]);
            case "post" -> x.post(a[0], a[1], a[2]);
            case "sheet" -> x.sheet(a[0], a[1], a[2]);
            case "lose" -> x.lose(a[0]);
            case "lay" -> x.lay(a[0], a[1], a[2], a[3]);
            case "get" -> x.get(a[0], a[1], a[2]);
            case "copy" -> x.copy(a[0], a[1], a[2], a[3], a[4]);
            case "write" -> x.write(a[0], a[1], a[2]);
            case "count" -> x.count(a[0]);
            case "digest" -> x.digest();
            default -> throw new IllegalArgumentException("no call " + name);
        };
    }

    /** The digest by the calls that the document names, in their order. */
    static long digestOf(OunceLetters x) {
        long[] h = {17};
        for (int what = 0; what < 8; what++) {
            add(h, x.count(what));
        }
        add(h, x.fault(0), x.fault(1));
        for (int it = 0; it < x.count(0); it++) {
            add(h, x.house(it, 0), x.house(it, 1), x.has(0, it, OunceLetters.NONE), x.has(11, it, OunceLetters.NONE), x.has(5, it, 0));
            add(h, x.fines(it), x.most(3, it, 0), x.most(3, it, 1), x.say(3, it, 1), x.ask(3, it));
            add(h, x.censor(5, it, 1, 0), x.censor(5, it, 1, 1), x.post(7, 9, it));
        }
        for (int it = 0; it < x.count(1); it++) {
            for (int what = 0; what < 10; what++) {
                add(h, x.word(it, what));
            }
            add(h, x.papers(it, 0), x.papers(it, 1), x.meant(it));
        }
        for (int it = 0; it < x.count(4); it++) {
            add(h, x.became(it), x.lend(it));
        }
        for (int it = 0; it < 8; it++) {
            add(h, x.spent(it), x.got(it));
        }
        add(h, x.bare(0), x.bare(1), x.never(), x.post(7, 9, OunceLetters.NONE));
        return h[0];
    }

    private static void add(long[] h, long... values) {
        for (long v : values) {
            h[0] = 31 * h[0] + v;
        }
    }
}
