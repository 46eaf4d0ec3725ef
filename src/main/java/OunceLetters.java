import java.util.Arrays;

/** Letters by the ounce: houses, words, rations, writings and lendings by months, and what follows from them. */
public final class OunceLetters {
    public static final int NONE = -1, BAD = -2, NOT = -3, FULL = -4;

    private static final int LETTERS = 8, MONTHS = 12;
    private static final int TEXTS = 2, HOUSE_BYTES = 23, TEXT_BYTES = 55, PARTS = 8, TERM_LETTERS = 6;
    private static final int PLACES = PARTS * LETTERS;
    private static final int WRITINGS = 12, LENDINGS = 8, SIGHTS = 8;
    private static final int PLAIN = 0, MISER = 1, VOWELLESS = 2;
    private static final int NOTHING = 0, IN_FULL = 1, SHORT = 2, FINED = 3;
    private static final int SHEETS = 4, FORMS = 3, ITEMS = 60, LOST = -1;
    private static final int NULL = 1, INDEX = 2, CAST = 3, STORE = 4, SIZE = 5;
    private static final int RATIONS = 10, SIXTEENTHS = 16;

    private final Houses houses;
    private final Terms terms;
    private final Told told;
    private final Rules rules;
    private final Run asTold;
    private final Run other;
    private final Chance chance;
    private final Sheets sheets;
    private final int[][] without = new int[WRITINGS][LETTERS];
    private int latestFinding;
    private boolean runIsOld;
    private boolean chanceIsOld;

    public OunceLetters() {
        houses = new Houses();
        terms = new Terms();
        told = new Told();
        rules = new Rules(houses, terms, told);
        asTold = new Run(rules, told);
        other = new Run(rules, told);
        chance = new Chance(rules, told);
        sheets = new Sheets();
        latestFinding = 0;
        runIsOld = true;
        chanceIsOld = true;
    }

    // ---- houses, words, rations, writings

    public int type(int text, int b) {
        if (!isBelow(text, TEXTS) || !isBelow(b, 256)) {
            return BAD;
        }
        Text it = textOf(text);
        if (it.length >= it.limit) {
            return FULL;
        }
        it.bytes[it.length] = b;
        setLength(it, it.length + 1);
        return it.length;
    }

    public int wipe(int text) {
        if (!isBelow(text, TEXTS)) {
            return BAD;
        }
        Text it = textOf(text);
        int had = it.length;
        setLength(it, 0);
        return had;
    }

    public int undo(int text) {
        if (!isBelow(text, TEXTS)) {
            return BAD;
        }
        Text it = textOf(text);
        if (it.length <= 0) {
            return NOT;
        }
        setLength(it, it.length - 1);
        return it.length;
    }

    public int fault(int text) {
        if (!isBelow(text, TEXTS)) {
            return BAD;
        }
        return textOf(text).fault;
    }

    public int house(int house, int what) {
        if (!isBelow(house, houses.many) || !isBelow(what, 2)) {
            return BAD;
        }
        return what == 0 ? houses.kind[house] : houses.heads[house];
    }

    public int word(int word, int what) {
        if (!isBelow(word, terms.many) || !isBelow(what, LETTERS + 2)) {
            return BAD;
        }
        if (what < LETTERS) {
            return terms.need[word][what];
        }
        return what == LETTERS ? terms.meaning[word] : terms.size[word];
    }

    public int ration(int letter, int v) {
        if (!isBelow(letter, LETTERS) || !isBelow(v, RATIONS)) {
            return BAD;
        }
        int was = told.rations[letter];
        told.rations[letter] = v;
        worldChanged();
        return was;
    }

    public int writing(int month, int house, int word) {
        if (!mayBeWriting(month, house, word)) {
            return BAD;
        }
        if (told.writings >= WRITINGS) {
            return FULL;
        }
        told.addWriting(month, house, word);
        worldChanged();
        return told.writings;
    }

    public int lending(int month, int house, int to, int letter) {
        if (!isBelow(month, MONTHS) || !isBelow(house, PARTS) || !isBelow(to, PARTS)
                || !isBelow(letter, LETTERS) || house == to) {
            return BAD;
        }
        if (told.lendings >= LENDINGS) {
            return FULL;
        }
        told.addLending(month, house, to, letter);
        worldChanged();
        return told.lendings;
    }

    public int back(int what) {
        if (!isBelow(what, 2)) {
            return BAD;
        }
        int many = what == 0 ? told.writings : told.lendings;
        if (many <= 0) {
            return NOT;
        }
        if (what == 0) {
            told.writings--;
        } else {
            told.lendings--;
        }
        worldChanged();
        return many - 1;
    }

    public int read(int s) {
        if (!isBelow(s, SHEETS)) {
            return BAD;
        }
        if (sheets.isLost(s)) {
            return found(NULL);
        }
        int taken = 0;
        for (int i = 0; i + 2 < sheets.size[s] && told.writings < WRITINGS; i += 3) {
            int month = sheets.item(s, i);
            int house = sheets.item(s, i + 1);
            int term = sheets.item(s, i + 2);
            if (!mayBeWriting(month, house, term)) {
                break;
            }
            told.addWriting(month, house, term);
            taken++;
        }
        worldChanged();
        return taken;
    }

    // ---- months

    public int has(int month, int house, int letter) {
        if (!isBelow(month, MONTHS) || !isBelow(house, houses.many)) {
            return BAD;
        }
        if (letter != NONE && !isBelow(letter, LETTERS)) {
            return BAD;
        }
        refreshRun();
        int[] stock = asTold.behind[month];
        return letter == NONE ? rules.allOf(stock, house) : stock[house * LETTERS + letter];
    }

    public int became(int writing) {
        if (!isBelow(writing, told.writings)) {
            return BAD;
        }
        refreshRun();
        return asTold.outcome[writing];
    }

    public int fines(int house) {
        if (!isBelow(house, houses.many)) {
            return BAD;
        }
        refreshRun();
        return asTold.finesOf(house);
    }

    public int spent(int letter) {
        if (!isBelow(letter, LETTERS)) {
            return BAD;
        }
        refreshRun();
        int sum = 0;
        for (int w = 0; w < told.writings; w++) {
            int term = told.writingTerm[w];
            if (asTold.outcome[w] == IN_FULL) {
                sum += terms.need[term][letter];
            } else if (asTold.outcome[w] == SHORT) {
                sum += terms.hardNeed[term][letter];
            }
        }
        return sum;
    }

    public int bare(int what) {
        if (!isBelow(what, 2)) {
            return BAD;
        }
        refreshRun();
        for (int month = 0; month < MONTHS; month++) {
            for (int house = 0; house < houses.many; house++) {
                if (rules.allOf(asTold.behind[month], house) == 0) {
                    return what == 0 ? month : house;
                }
            }
        }
        return NONE;
    }

    // ---- plans

    public int say(int month, int house, int meaning) {
        if (!isBelow(month, MONTHS) || !isBelow(house, houses.many) || !isBelow(meaning, 10)) {
            return BAD;
        }
        refreshRun();
        int best = NONE;
        for (int term = 0; term < terms.many; term++) {
            boolean couldBe = terms.meaning[term] == meaning
                    && rules.lacking(asTold.behind[month], house, term) == 0;
            if (couldBe && (best == NONE || terms.size[term] < terms.size[best])) {
                best = term;
            }
        }
        return best;
    }

    public int most(int month, int house, int what) {
        if (!isBelow(month, MONTHS) || !isBelow(house, houses.many) || !isBelow(what, 2)) {
            return BAD;
        }
        refreshRun();
        int best = 0;
        for (int set = 1; set < 1 << terms.many; set++) {
            // Sets come in rising order, so only a greater one may take the place of the best.
            if (Integer.bitCount(set) > Integer.bitCount(best)
                    && rules.canWriteAll(asTold.behind[month], house, set)) {
                best = set;
            }
        }
        return what == 0 ? Integer.bitCount(best) : best;
    }

    public int papers(int word, int what) {
        if (!isBelow(word, terms.many) || !isBelow(what, 2)) {
            return BAD;
        }
        int best = NONE;
        for (int set = 1; set < 1 << terms.many; set++) {
            boolean isFewer = best == NONE || Integer.bitCount(set) < Integer.bitCount(best);
            if (isFewer && (set >> word & 1) == 0 && terms.canBeCutFrom(word, set)) {
                best = set;
            }
        }
        return best == NONE || what == 1 ? best : Integer.bitCount(best);
    }

    public int lend(int writing) {
        if (!isBelow(writing, told.writings)) {
            return BAD;
        }
        int house = told.writingHouse[writing];
        int term = told.writingTerm[writing];
        if (!isBelow(house, houses.many) || !isBelow(term, terms.many)) {
            return NONE;
        }
        other.clear();
        other.lends = false;
        other.goUpTo(writing);
        return rules.lacking(other.stock, house, term);
    }

    // ---- meant, seen, chance, posts

    public int meant(int word) {
        if (!isBelow(word, terms.many)) {
            return BAD;
        }
        int set = 0;
        for (int term = 0; term < terms.many; term++) {
            if (terms.hard[word] > 0 && terms.readAlike(word, term)) {
                set |= 1 << term;
            }
        }
        return set;
    }

    public int seen(int month, int house, int letter, int n) {
        if (!isBelow(month, MONTHS) || !isBelow(house, PARTS) || !isBelow(letter, LETTERS)
                || !isBelow(n, 100)) {
            return BAD;
        }
        if (told.sights >= SIGHTS) {
            return FULL;
        }
        told.addSight(month, house, letter, n);
        return told.sights;
    }

    public int forget() {
        int had = told.sights;
        told.sights = 0;
        return had;
    }

    public int never() {
        int set = 0;
        int last = told.lastSightMonth();
        for (int w = 0; w < told.writings; w++) {
            other.clear();
            other.leftOut = w;
            other.goMonths(0, last);
            if (other.isAsSeen()) {
                set |= 1 << w;
            }
        }
        return set;
    }

    public int got(int letter) {
        if (!isBelow(letter, LETTERS)) {
            return BAD;
        }
        int set = 0;
        int last = told.lastSightMonth();
        for (int v = 0; v < RATIONS; v++) {
            other.clear();
            other.rations[letter] = v;
            other.goMonths(0, last);
            if (other.isAsSeen()) {
                set |= 1 << v;
            }
        }
        return set;
    }

    public int ask(int month, int house) {
        if (!isBelow(month, MONTHS) || !isBelow(house, houses.many)) {
            return BAD;
        }
        int suspects = never();
        for (int w = 0; w < told.writings; w++) {
            if ((suspects >> w & 1) != 0) {
                other.clear();
                other.leftOut = w;
                other.goMonths(0, month);
                System.arraycopy(other.stock, house * LETTERS, without[w], 0, LETTERS);
            }
        }
        int best = 0;
        int least = WRITINGS + 1;
        for (int letter = 0; letter < LETTERS; letter++) {
            int alike = mostAlike(suspects, letter);
            if (alike < least) {
                least = alike;
                best = letter;
            }
        }
        return best;
    }

    public long censor(int c, int house, int most, int what) {
        if (!isBelow(c, SIXTEENTHS + 1) || !isBelow(house, houses.many)
                || !isBelow(most, WRITINGS + 1) || !isBelow(what, 2)) {
            return Long.MIN_VALUE - BAD;
        }
        if (chanceIsOld) {
            chance.countAll();
            chanceIsOld = false;
        }
        long above = chance.above(c, house, most);
        if (above == 0) {
            return what;
        }
        long below = power(SIXTEENTHS, chance.live);
        // What stands below is a power of two, so halving is all that a fraction here can lose.
        for (int i = 0; i < 4 * WRITINGS && (above & 1) == 0 && (below & 1) == 0; i++) {
            above >>= 1;
            below >>= 1;
        }
        return what == 0 ? above : below;
    }

    public int post(int seed, int month, int house) {
        if (!isBelow(month, MONTHS) || house != NONE && !isBelow(house, houses.many)) {
            return BAD;
        }
        int written = 0;
        int lot = seed;
        other.clear();
        for (int m = 0; m <= month; m++) {
            other.goMonths(m, m);
            if (houses.many > 0 && terms.many > 0) {
                lot = nextSeed(lot);
                int by = (lot >>> 16) % houses.many;
                lot = nextSeed(lot);
                int term = (lot >>> 16) % terms.many;
                int outcome = rules.settle(other.stock, by, term);
                written += outcome == IN_FULL || outcome == SHORT ? 1 : 0;
            }
        }
        return house == NONE ? written : rules.allOf(other.stock, house);
    }

    // ---- sheets

    public int sheet(int s, int form, int n) {
        if (!isBelow(s, SHEETS) || !isBelow(form, FORMS) || n > ITEMS) {
            return BAD;
        }
        if (n < 0) {
            return found(SIZE);
        }
        sheets.make(s, form, n);
        return n;
    }

    public int lose(int s) {
        if (!isBelow(s, SHEETS)) {
            return BAD;
        }
        if (sheets.isLost(s)) {
            return found(NULL);
        }
        int had = sheets.size[s];
        sheets.size[s] = LOST;
        return had;
    }

    public int lay(int s, int form, int i, int v) {
        if (!isBelow(s, SHEETS) || !isBelow(form, FORMS)) {
            return BAD;
        }
        int finding = sheets.findingAt(s, form, i);
        if (finding != 0) {
            return found(finding);
        }
        sheets.put(s, i, v);
        return 1;
    }

    public int get(int s, int form, int i) {
        if (!isBelow(s, SHEETS) || !isBelow(form, FORMS)) {
            return Integer.MIN_VALUE;
        }
        int finding = sheets.findingAt(s, form, i);
        if (finding != 0) {
            latestFinding = finding;
            return Integer.MIN_VALUE;
        }
        return sheets.item(s, i);
    }

    public int copy(int s, int i, int t, int j, int n) {
        if (!isBelow(s, SHEETS) || !isBelow(t, SHEETS)) {
            return BAD;
        }
        if (sheets.isLost(s) || sheets.isLost(t)) {
            return found(NULL);
        }
        if (sheets.form[s] != sheets.form[t]) {
            return found(STORE);
        }
        if (!sheets.holds(s, i, n) || !sheets.holds(t, j, n)) {
            return found(INDEX);
        }
        System.arraycopy(sheets.items[s], i, sheets.items[t], j, n);
        return 1;
    }

    public int write(int month, int house, int s) {
        if (!isBelow(month, MONTHS) || !isBelow(house, houses.many) || !isBelow(s, SHEETS)) {
            return BAD;
        }
        if (sheets.isLost(s)) {
            return found(NULL);
        }
        refreshRun();
        int many = Math.min(sheets.size[s], LETTERS);
        for (int letter = 0; letter < many; letter++) {
            sheets.put(s, letter, asTold.behind[month][house * LETTERS + letter]);
        }
        return many;
    }

    public int count(int what) {
        switch (what) {
            case 0:
                return houses.many;
            case 1:
                return terms.many;
            case 2:
                return houses.length;
            case 3:
                return terms.length;
            case 4:
                return told.writings;
            case 5:
                return told.lendings;
            case 6:
                refreshRun();
                return asTold.finesOf(NONE);
            case 7:
                return told.sights;
            case 8:
                return latestFinding;
            default:
                return BAD;
        }
    }

    public long digest() {
        long h = 17;
        for (int what = 0; what < 8; what++) {
            h = 31 * h + count(what);
        }
        for (int text = 0; text < TEXTS; text++) {
            h = 31 * h + fault(text);
        }
        for (int house = 0; house < houses.many; house++) {
            h = 31 * h + house(house, 0);
            h = 31 * h + house(house, 1);
            h = 31 * h + has(0, house, NONE);
            h = 31 * h + has(11, house, NONE);
            h = 31 * h + has(5, house, 0);
            h = 31 * h + fines(house);
            h = 31 * h + most(3, house, 0);
            h = 31 * h + most(3, house, 1);
            h = 31 * h + say(3, house, 1);
            h = 31 * h + ask(3, house);
            h = 31 * h + censor(5, house, 1, 0);
            h = 31 * h + censor(5, house, 1, 1);
            h = 31 * h + post(7, 9, house);
        }
        for (int term = 0; term < terms.many; term++) {
            for (int what = 0; what < LETTERS + 2; what++) {
                h = 31 * h + word(term, what);
            }
            h = 31 * h + papers(term, 0);
            h = 31 * h + papers(term, 1);
            h = 31 * h + meant(term);
        }
        for (int w = 0; w < told.writings; w++) {
            h = 31 * h + became(w);
            h = 31 * h + lend(w);
        }
        for (int letter = 0; letter < LETTERS; letter++) {
            h = 31 * h + spent(letter);
            h = 31 * h + got(letter);
        }
        h = 31 * h + bare(0);
        h = 31 * h + bare(1);
        h = 31 * h + never();
        return 31 * h + post(7, 9, NONE);
    }

    /** How many of these writings, at most, leave alike many of a letter where each is left out. */
    private int mostAlike(int suspects, int letter) {
        int greatest = 0;
        for (int w = 0; w < told.writings; w++) {
            int alike = 0;
            for (int v = 0; v < told.writings; v++) {
                if ((suspects >> v & 1) != 0 && without[v][letter] == without[w][letter]) {
                    alike++;
                }
            }
            if ((suspects >> w & 1) != 0) {
                greatest = Math.max(greatest, alike);
            }
        }
        return greatest;
    }

    private int found(int finding) {
        latestFinding = finding;
        return -10 - finding;
    }

    private Text textOf(int text) {
        return text == 0 ? houses : terms;
    }

    private void setLength(Text it, int length) {
        it.length = length;
        it.readAgain();
        worldChanged();
    }

    private void worldChanged() {
        runIsOld = true;
        chanceIsOld = true;
    }

    private void refreshRun() {
        if (runIsOld) {
            asTold.clear();
            asTold.goMonths(0, MONTHS - 1);
            runIsOld = false;
        }
    }

    private static boolean isBelow(int v, int bound) {
        return v >= 0 && v < bound;
    }

    private static boolean isVowel(int letter) {
        return letter == 0 || letter == 4;
    }

    private static boolean mayBeWriting(int month, int house, int term) {
        return isBelow(month, MONTHS) && isBelow(house, PARTS) && isBelow(term, PARTS);
    }

    private static int nextSeed(int seed) {
        return 1103515245 * seed + 12345;
    }

    private static long power(long base, int exponent) {
        long product = 1;
        for (int i = 0; i < exponent; i++) {
            product *= base;
        }
        return product;
    }

    /** Bytes that were typed, and the parts with ; between them that they tell. */
    private abstract static class Text {
        static final int AT_FIRST = 0, INSIDE = 1, AT_END = 2, WRONG = 3;

        final int[] bytes = new int[TEXT_BYTES];
        final int limit;
        int length = 0;
        int many = 0;
        int fault = NONE;

        Text(int limit) {
            this.limit = Math.min(limit, TEXT_BYTES);
        }

        /** What a byte, the first of a part or one inside it, leads to; many tells which part. */
        abstract int step(int state, int b);

        void readAgain() {
            many = 0;
            fault = NONE;
            int state = AT_FIRST;
            for (int p = 0; p < length && p < TEXT_BYTES; p++) {
                state = next(state, bytes[p]);
                if (state == WRONG) {
                    refuse(p);
                    return;
                }
            }
            if (length > 0 && state != AT_END) {
                refuse(length);
            }
        }

        private int next(int state, int b) {
            if (state == AT_END) {
                return b == ';' ? AT_FIRST : WRONG;
            }
            return many < PARTS ? step(state, b) : WRONG;
        }

        private void refuse(int place) {
            many = 0;
            fault = place;
        }
    }

    /** What text 0 tells. */
    private static final class Houses extends Text {
        final int[] kind = new int[PARTS];
        final int[] heads = new int[PARTS];

        Houses() {
            super(HOUSE_BYTES);
        }

        int step(int state, int b) {
            if (state == AT_FIRST) {
                kind[many] = kindOf(b);
                return kind[many] == NONE ? WRONG : INSIDE;
            }
            if (b < '1' || b > '9') {
                return WRONG;
            }
            heads[many] = b - '0';
            many++;
            return AT_END;
        }

        private static int kindOf(int b) {
            if (b == 'r') {
                return PLAIN;
            }
            if (b == 'm') {
                return MISER;
            }
            return b == 'v' ? VOWELLESS : NONE;
        }
    }

    /** What text 1 tells. */
    private static final class Terms extends Text {
        final int[][] spelling = new int[PARTS][TERM_LETTERS];
        final int[][] need = new int[PARTS][LETTERS];
        final int[][] hardNeed = new int[PARTS][LETTERS];
        final int[] size = new int[PARTS];
        final int[] hard = new int[PARTS];
        final int[] meaning = new int[PARTS];

        Terms() {
            super(TEXT_BYTES);
        }

        int step(int state, int b) {
            if (state == AT_FIRST) {
                begin();
            }
            if (b >= 'a' && b < 'a' + LETTERS && size[many] < TERM_LETTERS) {
                addLetter(b - 'a');
                return INSIDE;
            }
            if (state == AT_FIRST || b < '0' || b > '9') {
                return WRONG;
            }
            meaning[many] = b - '0';
            many++;
            return AT_END;
        }

        private void begin() {
            size[many] = 0;
            hard[many] = 0;
            Arrays.fill(need[many], 0);
            Arrays.fill(hardNeed[many], 0);
        }

        private void addLetter(int letter) {
            spelling[many][size[many]] = letter;
            size[many]++;
            need[many][letter]++;
            if (!isVowel(letter)) {
                hardNeed[many][letter]++;
                hard[many]++;
            }
        }

        boolean canBeCutFrom(int term, int set) {
            for (int letter = 0; letter < LETTERS; letter++) {
                if (sumOf(set, letter) < need[term][letter]) {
                    return false;
                }
            }
            return true;
        }

        int sumOf(int set, int letter) {
            int sum = 0;
            for (int term = 0; term < many; term++) {
                if ((set >> term & 1) != 0) {
                    sum += need[term][letter];
                }
            }
            return sum;
        }

        boolean readAlike(int one, int two) {
            if (hard[one] != hard[two]) {
                return false;
            }
            for (int i = 0; i < hard[one]; i++) {
                if (hardLetter(one, i) != hardLetter(two, i)) {
                    return false;
                }
            }
            return true;
        }

        /** The letter that is the i-th of those that are no vowels. */
        private int hardLetter(int term, int i) {
            int passed = 0;
            for (int p = 0; p < size[term]; p++) {
                if (!isVowel(spelling[term][p])) {
                    if (passed == i) {
                        return spelling[term][p];
                    }
                    passed++;
                }
            }
            return NONE;
        }
    }

    /** Rations, writings, lendings and what was seen, as told. */
    private static final class Told {
        final int[] rations = new int[LETTERS];
        final int[] writingMonth = new int[WRITINGS];
        final int[] writingHouse = new int[WRITINGS];
        final int[] writingTerm = new int[WRITINGS];
        int writings = 0;
        final int[] lendingMonth = new int[LENDINGS];
        final int[] lendingHouse = new int[LENDINGS];
        final int[] lendingTo = new int[LENDINGS];
        final int[] lendingLetter = new int[LENDINGS];
        int lendings = 0;
        final int[] sightMonth = new int[SIGHTS];
        final int[] sightHouse = new int[SIGHTS];
        final int[] sightLetter = new int[SIGHTS];
        final int[] sightMany = new int[SIGHTS];
        int sights = 0;

        Told() {
            Arrays.fill(rations, 2);
        }

        void addWriting(int month, int house, int term) {
            if (writings < WRITINGS) {
                writingMonth[writings] = month;
                writingHouse[writings] = house;
                writingTerm[writings] = term;
                writings++;
            }
        }

        void addLending(int month, int house, int to, int letter) {
            if (lendings < LENDINGS) {
                lendingMonth[lendings] = month;
                lendingHouse[lendings] = house;
                lendingTo[lendings] = to;
                lendingLetter[lendings] = letter;
                lendings++;
            }
        }

        void addSight(int month, int house, int letter, int many) {
            if (sights < SIGHTS) {
                sightMonth[sights] = month;
                sightHouse[sights] = house;
                sightLetter[sights] = letter;
                sightMany[sights] = many;
                sights++;
            }
        }

        /** The latest month that was looked into, or NONE. */
        int lastSightMonth() {
            int last = NONE;
            for (int i = 0; i < sights; i++) {
                last = Math.max(last, sightMonth[i]);
            }
            return last;
        }
    }

    /** What happens to stocks; a stock is a row with eight letters for each house. */
    private static final class Rules {
        final Houses houses;
        final Terms terms;
        final Told told;

        Rules(Houses houses, Terms terms, Told told) {
            this.houses = houses;
            this.terms = terms;
            this.told = told;
        }

        void handOut(int[] stock, int[] rations) {
            for (int house = 0; house < houses.many; house++) {
                boolean isMiser = houses.kind[house] == MISER;
                for (int letter = 0; letter < LETTERS; letter++) {
                    int at = house * LETTERS + letter;
                    int kept = isMiser ? stock[at] / 2 : 0;
                    stock[at] = kept + rations[letter] * houses.heads[house];
                }
            }
        }

        void moveLent(int[] stock, int month) {
            for (int i = 0; i < told.lendings; i++) {
                int from = told.lendingHouse[i];
                int to = told.lendingTo[i];
                if (told.lendingMonth[i] == month && from < houses.many && to < houses.many) {
                    moveOne(stock, from, to, told.lendingLetter[i]);
                }
            }
        }

        private void moveOne(int[] stock, int from, int to, int letter) {
            if (stock[from * LETTERS + letter] > 0) {
                stock[from * LETTERS + letter]--;
                stock[to * LETTERS + letter]++;
            }
        }

        /** A house is to write a term: what becomes of it; what it spends is taken. */
        int settle(int[] stock, int house, int term) {
            if (house >= houses.many || term >= terms.many) {
                return NOTHING;
            }
            if (tookAll(stock, house, terms.need[term])) {
                return IN_FULL;
            }
            if (houses.kind[house] == VOWELLESS && terms.hard[term] > 0
                    && tookAll(stock, house, terms.hardNeed[term])) {
                return SHORT;
            }
            return FINED;
        }

        /** Takes all letters of a row from a house, or none of them if it has not all. */
        private boolean tookAll(int[] stock, int house, int[] row) {
            for (int letter = 0; letter < LETTERS; letter++) {
                if (stock[house * LETTERS + letter] < row[letter]) {
                    return false;
                }
            }
            for (int letter = 0; letter < LETTERS; letter++) {
                stock[house * LETTERS + letter] -= row[letter];
            }
            return true;
        }

        /** How many letters a house has too few to write a term in full. */
        int lacking(int[] stock, int house, int term) {
            int sum = 0;
            for (int letter = 0; letter < LETTERS; letter++) {
                sum += Math.max(0, terms.need[term][letter] - stock[house * LETTERS + letter]);
            }
            return sum;
        }

        boolean canWriteAll(int[] stock, int house, int set) {
            for (int letter = 0; letter < LETTERS; letter++) {
                if (terms.sumOf(set, letter) > stock[house * LETTERS + letter]) {
                    return false;
                }
            }
            return true;
        }

        int allOf(int[] stock, int house) {
            int sum = 0;
            for (int letter = 0; letter < LETTERS; letter++) {
                sum += stock[house * LETTERS + letter];
            }
            return sum;
        }
    }

    /** Months that go by, as told or with something else in its place. */
    private static final class Run {
        final Rules rules;
        final Told told;
        final int[] rations = new int[LETTERS];
        final int[] stock = new int[PLACES];
        final int[][] behind = new int[MONTHS][PLACES];
        final int[] outcome = new int[WRITINGS];
        int leftOut = NONE;
        boolean lends = true;

        Run(Rules rules, Told told) {
            this.rules = rules;
            this.told = told;
        }

        /** Ready for month 0, with all as told. */
        void clear() {
            Arrays.fill(stock, 0);
            Arrays.fill(outcome, NOTHING);
            System.arraycopy(told.rations, 0, rations, 0, LETTERS);
            leftOut = NONE;
            lends = true;
        }

        void goMonths(int first, int last) {
            for (int month = first; month <= last && month < MONTHS; month++) {
                open(month);
                writeBefore(month, told.writings);
                System.arraycopy(stock, 0, behind[month], 0, PLACES);
            }
        }

        /** Goes on to where a writing comes next. */
        void goUpTo(int writing) {
            int month = told.writingMonth[writing];
            goMonths(0, month - 1);
            open(month);
            writeBefore(month, writing);
        }

        private void open(int month) {
            rules.handOut(stock, rations);
            if (lends) {
                rules.moveLent(stock, month);
            }
        }

        private void writeBefore(int month, int end) {
            for (int w = 0; w < end; w++) {
                if (told.writingMonth[w] == month && w != leftOut) {
                    outcome[w] = rules.settle(stock, told.writingHouse[w], told.writingTerm[w]);
                }
            }
        }

        /** Of a house, or of all (NONE). */
        int finesOf(int house) {
            int sum = 0;
            for (int w = 0; w < told.writings; w++) {
                if (outcome[w] == FINED && (house == NONE || told.writingHouse[w] == house)) {
                    sum++;
                }
            }
            return sum;
        }

        /** Whether all that was seen is so; the months that were looked into must have gone by. */
        boolean isAsSeen() {
            for (int i = 0; i < told.sights; i++) {
                int house = told.sightHouse[i];
                int has = behind[told.sightMonth[i]][house * LETTERS + told.sightLetter[i]];
                if (house >= rules.houses.many || has != told.sightMany[i]) {
                    return false;
                }
            }
            return true;
        }
    }

    /** All ways in which the censor may let writings through, counted by how many went and how many fines came. */
    private static final class Chance {
        private static final int COUNTS = WRITINGS + 1;

        final Rules rules;
        final Told told;
        final int[] order = new int[WRITINGS];
        final int[][] stock = new int[WRITINGS + 1][PLACES];
        final int[] fines = new int[PARTS];
        final int[][] ways = new int[PARTS][COUNTS * COUNTS];
        int live = 0;

        Chance(Rules rules, Told told) {
            this.rules = rules;
            this.told = told;
        }

        void countAll() {
            sortLive();
            Arrays.fill(stock[0], 0);
            Arrays.fill(fines, 0);
            for (int house = 0; house < PARTS; house++) {
                Arrays.fill(ways[house], 0);
            }
            branch(0, 0);
        }

        /** By months, as told; those of no house or no term change no chance. */
        private void sortLive() {
            live = 0;
            for (int month = 0; month < MONTHS; month++) {
                for (int w = 0; w < told.writings; w++) {
                    if (told.writingMonth[w] == month && told.writingHouse[w] < rules.houses.many
                            && told.writingTerm[w] < rules.terms.many) {
                        order[live] = w;
                        live++;
                    }
                }
            }
        }

        private void branch(int depth, int gone) {
            if (depth >= live || depth >= WRITINGS) {
                note(gone);
                return;
            }
            int w = order[depth];
            int house = told.writingHouse[w];
            advance(depth);
            System.arraycopy(stock[depth], 0, stock[depth + 1], 0, PLACES);
            branch(depth + 1, gone);
            System.arraycopy(stock[depth], 0, stock[depth + 1], 0, PLACES);
            int fine = rules.settle(stock[depth + 1], house, told.writingTerm[w]) == FINED ? 1 : 0;
            fines[house] += fine;
            branch(depth + 1, gone + 1);
            fines[house] -= fine;
        }

        /** Brings a stock from the month of the writing before to the month of this one. */
        private void advance(int depth) {
            int last = told.writingMonth[order[depth]];
            int first = depth == 0 ? 0 : told.writingMonth[order[depth - 1]] + 1;
            for (int month = first; month <= last; month++) {
                rules.handOut(stock[depth], told.rations);
                rules.moveLent(stock[depth], month);
            }
        }

        private void note(int gone) {
            for (int house = 0; house < rules.houses.many; house++) {
                ways[house][gone * COUNTS + fines[house]]++;
            }
        }

        /** Of 16 to the power of live, the share in which a house has no more than so many fines. */
        long above(int c, int house, int most) {
            long sum = 0;
            for (int gone = 0; gone <= live; gone++) {
                long many = 0;
                for (int fine = 0; fine <= most && fine < COUNTS; fine++) {
                    many += ways[house][gone * COUNTS + fine];
                }
                sum += many * power(c, gone) * power(SIXTEENTHS - c, live - gone);
            }
            return sum;
        }
    }

    /** Rows of items; the size of a lost one is LOST. */
    private static final class Sheets {
        final int[] form = new int[SHEETS];
        final int[] size = new int[SHEETS];
        final int[][] items = new int[SHEETS][ITEMS];

        Sheets() {
            Arrays.fill(size, LOST);
        }

        boolean isLost(int s) {
            return size[s] == LOST;
        }

        void make(int s, int newForm, int n) {
            form[s] = newForm;
            size[s] = n;
            Arrays.fill(items[s], 0);
        }

        int findingAt(int s, int asForm, int i) {
            if (isLost(s)) {
                return NULL;
            }
            if (form[s] != asForm) {
                return CAST;
            }
            return isBelow(i, size[s]) ? 0 : INDEX;
        }

        boolean holds(int s, int i, int n) {
            return i >= 0 && n >= 0 && i <= size[s] && n <= size[s] - i;
        }

        int item(int s, int i) {
            return items[s][i];
        }

        void put(int s, int i, int v) {
            if (form[s] == 0) {
                items[s][i] = (byte) v;
            } else if (form[s] == 1) {
                items[s][i] = (short) v;
            } else {
                items[s][i] = v;
            }
        }
    }
}
