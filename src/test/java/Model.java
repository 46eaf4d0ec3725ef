import java.math.BigInteger;
import java.util.ArrayList;
import java.util.Arrays;
import java.util.HashMap;
import java.util.List;
import java.util.Map;
import java.util.function.IntPredicate;
import java.util.regex.Matcher;
import java.util.regex.Pattern;

/** The document once more, in the plainest way that the library allows, to hold the class against. */
final class Model {
    private static final int NONE = -1, BAD = -2, NOT = -3, FULL = -4;
    private static final int LEAST = Integer.MIN_VALUE;
    private static final String HOUSE = "[rmv][1-9]", TERM = "[a-h]{1,6}[0-9]";

    private final StringBuilder[] texts = {new StringBuilder(), new StringBuilder()};
    private final int[] ration = {2, 2, 2, 2, 2, 2, 2, 2};
    private final List<int[]> writings = new ArrayList<>();
    private final List<int[]> lendings = new ArrayList<>();
    private final List<int[]> seen = new ArrayList<>();
    private final Object[] sheets = new Object[4];
    private int finding = 0;
    private final Map<String, BigInteger[]> chances = new HashMap<>();

    /** Stocks behind each month, and what became of each writing. */
    private static final class World {
        final int[][][] stock = new int[12][8][8];
        final int[] became = new int[12];
        int posted = 0;
    }

    // ---- texts

    int type(int text, int b) {
        if (text < 0 || text > 1 || b < 0 || b > 255) {
            return BAD;
        }
        if (texts[text].length() == (text == 0 ? 23 : 55)) {
            return FULL;
        }
        texts[text].append((char) b);
        return texts[text].length();
    }

    int wipe(int text) {
        if (text < 0 || text > 1) {
            return BAD;
        }
        int had = texts[text].length();
        texts[text].setLength(0);
        return had;
    }

    int undo(int text) {
        if (text < 0 || text > 1) {
            return BAD;
        }
        if (texts[text].length() == 0) {
            return NOT;
        }
        texts[text].setLength(texts[text].length() - 1);
        return texts[text].length();
    }

    int fault(int text) {
        if (text < 0 || text > 1) {
            return BAD;
        }
        String all = texts[text].toString();
        String one = text == 0 ? HOUSE : TERM;
        String row = one + "(;" + one + "){0,7}";
        if (all.isEmpty() || all.matches(row)) {
            return NONE;
        }
        for (int i = 0; i < all.length(); i++) {
            // A ';' behind the eighth may stand: only the first byte of a ninth is told to be wrong.
            Matcher m = Pattern.compile(row + ";?", Pattern.DOTALL).matcher(all.substring(0, i + 1));
            if (!m.matches() && !m.hitEnd()) {
                return i;
            }
        }
        return all.length();
    }

    private String[] parts(int text) {
        return texts[text].length() == 0 || fault(text) != NONE ? new String[0] : texts[text].toString().split(";");
    }

    private int houses() {
        return parts(0).length;
    }

    private int terms() {
        return parts(1).length;
    }

    private boolean isHouse(int house) {
        return house >= 0 && house < houses();
    }

    private boolean isTerm(int term) {
        return term >= 0 && term < terms();
    }

    private String letters(int term) {
        String part = parts(1)[term];
        return part.substring(0, part.length() - 1);
    }

    private static int[] tally(String letters) {
        int[] row = new int[8];
        for (char c : letters.toCharArray()) {
            row[c - 'a']++;
        }
        return row;
    }

    int house(int house, int what) {
        if (!isHouse(house) || what < 0 || what > 1) {
            return BAD;
        }
        String part = parts(0)[house];
        return what == 0 ? "rmv".indexOf(part.charAt(0)) : part.charAt(1) - '0';
    }

    int word(int word, int what) {
        if (!isTerm(word) || what < 0 || what > 9) {
            return BAD;
        }
        String part = parts(1)[word];
        if (what == 9) {
            return part.length() - 1;
        }
        return what == 8 ? part.charAt(part.length() - 1) - '0' : tally(letters(word))[what];
    }

    int ration(int letter, int v) {
        if (letter < 0 || letter > 7 || v < 0 || v > 9) {
            return BAD;
        }
        int was = ration[letter];
        ration[letter] = v;
        return was;
    }

    int writing(int month, int house, int word) {
        if (month < 0 || month > 11 || house < 0 || house > 7 || word < 0 || word > 7) {
            return BAD;
        }
        if (writings.size() == 12) {
            return FULL;
        }
        writings.add(new int[] {month, house, word});
        return writings.size();
    }

    int lending(int month, int house, int to, int letter) {
        if (month < 0 || month > 11 || house < 0 || house > 7 || to < 0 || to > 7 || letter < 0 || letter > 7
                || house == to) {
            return BAD;
        }
        if (lendings.size() == 8) {
            return FULL;
        }
        lendings.add(new int[] {month, house, to, letter});
        return lendings.size();
    }

    int back(int what) {
        if (what < 0 || what > 1) {
            return BAD;
        }
        List<int[]> list = what == 0 ? writings : lendings;
        if (list.isEmpty()) {
            return NOT;
        }
        list.remove(list.size() - 1);
        return list.size();
    }

    int read(int s) {
        if (s < 0 || s > 3) {
            return BAD;
        }
        if (sheets[s] == null) {
            return found(1);
        }
        int taken = 0;
        while (3 * taken + 3 <= size(s)) {
            if (writing(item(s, 3 * taken), item(s, 3 * taken + 1), item(s, 3 * taken + 2)) < 0) {
                break;
            }
            taken++;
        }
        return taken;
    }

    // ---- months

    private World go(int[] rations, IntPredicate goes, boolean lends, int[][] posts) {
        World world = new World();
        int many = houses();
        int known = terms();
        int[] kinds = new int[many];
        int[] heads = new int[many];
        String[] words = new String[known];
        for (int h = 0; h < many; h++) {
            kinds[h] = house(h, 0);
            heads[h] = house(h, 1);
        }
        for (int t = 0; t < known; t++) {
            words[t] = letters(t);
        }
        int[][] now = new int[8][8];
        for (int month = 0; month < 12; month++) {
            for (int h = 0; h < many; h++) {
                for (int l = 0; l < 8; l++) {
                    now[h][l] = (kinds[h] == 1 ? now[h][l] / 2 : 0) + rations[l] * heads[h];
                }
            }
            for (int[] lending : lendings) {
                boolean both = lending[1] < many && lending[2] < many;
                if (lends && lending[0] == month && both && now[lending[1]][lending[3]] > 0) {
                    now[lending[1]][lending[3]]--;
                    now[lending[2]][lending[3]]++;
                }
            }
            for (int w = 0; w < writings.size(); w++) {
                int[] it = writings.get(w);
                if (it[0] == month && goes.test(w) && it[1] < many && it[2] < known) {
                    world.became[w] = put(now[it[1]], kinds[it[1]], words[it[2]]);
                }
            }
            if (posts != null && month < posts.length) {
                int became = put(now[posts[month][0]], kinds[posts[month][0]], words[posts[month][1]]);
                world.posted += became == 3 ? 0 : 1;
            }
            for (int h = 0; h < 8; h++) {
                world.stock[month][h] = now[h].clone();
            }
        }
        return world;
    }

    private static int put(int[] stock, int kind, String word) {
        if (spend(stock, word)) {
            return 1;
        }
        String rest = word.replaceAll("[ae]", "");
        return kind == 2 && !rest.isEmpty() && spend(stock, rest) ? 2 : 3;
    }

    private static boolean spend(int[] stock, String word) {
        int[] left = stock.clone();
        for (char c : word.toCharArray()) {
            if (--left[c - 'a'] < 0) {
                return false;
            }
        }
        System.arraycopy(left, 0, stock, 0, 8);
        return true;
    }

    private World told() {
        return go(ration, w -> true, true, null);
    }

    int has(int month, int house, int letter) {
        if (month < 0 || month > 11 || !isHouse(house) || letter < -1 || letter > 7) {
            return BAD;
        }
        int[] row = told().stock[month][house];
        return letter == NONE ? Arrays.stream(row).sum() : row[letter];
    }

    int became(int writing) {
        return writing < 0 || writing >= writings.size() ? BAD : told().became[writing];
    }

    int fines(int house) {
        return isHouse(house) ? finesIn(told(), house) : BAD;
    }

    private int finesIn(World world, int house) {
        int sum = 0;
        for (int w = 0; w < writings.size(); w++) {
            sum += writings.get(w)[1] == house && world.became[w] == 3 ? 1 : 0;
        }
        return sum;
    }

    int spent(int letter) {
        if (letter < 0 || letter > 7) {
            return BAD;
        }
        int sum = 0;
        World world = told();
        for (int w = 0; w < writings.size(); w++) {
            if (world.became[w] == 1 || world.became[w] == 2) {
                String word = letters(writings.get(w)[2]);
                sum += tally(world.became[w] == 2 ? word.replaceAll("[ae]", "") : word)[letter];
            }
        }
        return sum;
    }

    int bare(int what) {
        if (what < 0 || what > 1) {
            return BAD;
        }
        World world = told();
        for (int at = 0; at < 12 * houses(); at++) {
            int month = at / houses();
            int house = at % houses();
            if (Arrays.stream(world.stock[month][house]).sum() == 0) {
                return what == 0 ? month : house;
            }
        }
        return NONE;
    }

    // ---- plans

    int say(int month, int house, int meaning) {
        if (month < 0 || month > 11 || !isHouse(house) || meaning < 0 || meaning > 9) {
            return BAD;
        }
        int[] stock = told().stock[month][house];
        for (int size = 1; size <= 6; size++) {
            for (int t = 0; t < terms(); t++) {
                if (word(t, 9) == size && word(t, 8) == meaning && spend(stock.clone(), letters(t))) {
                    return t;
                }
            }
        }
        return NONE;
    }

    private String together(int set) {
        StringBuilder all = new StringBuilder();
        for (int t = 0; t < terms(); t++) {
            all.append((set >> t & 1) == 1 ? letters(t) : "");
        }
        return all.toString();
    }

    int most(int month, int house, int what) {
        if (month < 0 || month > 11 || !isHouse(house) || what < 0 || what > 1) {
            return BAD;
        }
        int[] stock = told().stock[month][house];
        for (int many = terms(); many > 0; many--) {
            for (int set = 0; set < 1 << terms(); set++) {
                if (Integer.bitCount(set) == many && spend(stock.clone(), together(set))) {
                    return what == 0 ? many : set;
                }
            }
        }
        return 0;
    }

    int papers(int word, int what) {
        if (!isTerm(word) || what < 0 || what > 1) {
            return BAD;
        }
        for (int many = 1; many <= terms(); many++) {
            for (int set = 0; set < 1 << terms(); set++) {
                boolean others = Integer.bitCount(set) == many && (set >> word & 1) == 0;
                if (others && spend(tally(together(set)), letters(word))) {
                    return what == 0 ? many : set;
                }
            }
        }
        return NONE;
    }

    int lend(int writing) {
        if (writing < 0 || writing >= writings.size()) {
            return BAD;
        }
        int[] it = writings.get(writing);
        if (!isHouse(it[1]) || !isTerm(it[2])) {
            return NONE;
        }
        IntPredicate before = w -> writings.get(w)[0] < it[0] || writings.get(w)[0] == it[0] && w < writing;
        int[] stock = go(ration, before, false, null).stock[it[0]][it[1]];
        int more = 0;
        int[] need = tally(letters(it[2]));
        for (int l = 0; l < 8; l++) {
            while (stock[l] < need[l]) {
                stock[l]++;
                more++;
            }
        }
        return more;
    }

    // ---- meant, seen, chance, posts

    int meant(int word) {
        if (!isTerm(word)) {
            return BAD;
        }
        int set = 0;
        String rest = letters(word).replaceAll("[ae]", "");
        for (int t = 0; t < terms(); t++) {
            set |= !rest.isEmpty() && letters(t).replaceAll("[ae]", "").equals(rest) ? 1 << t : 0;
        }
        return set;
    }

    int seen(int month, int house, int letter, int n) {
        if (month < 0 || month > 11 || house < 0 || house > 7 || letter < 0 || letter > 7 || n < 0 || n > 99) {
            return BAD;
        }
        if (seen.size() == 8) {
            return FULL;
        }
        seen.add(new int[] {month, house, letter, n});
        return seen.size();
    }

    int forget() {
        int had = seen.size();
        seen.clear();
        return had;
    }

    private boolean comesOut(World world) {
        for (int[] it : seen) {
            if (!isHouse(it[1]) || world.stock[it[0]][it[1]][it[2]] != it[3]) {
                return false;
            }
        }
        return true;
    }

    private World without(int writing) {
        return go(ration, w -> w != writing, true, null);
    }

    int never() {
        int set = 0;
        for (int w = 0; w < writings.size(); w++) {
            set |= comesOut(without(w)) ? 1 << w : 0;
        }
        return set;
    }

    int got(int letter) {
        if (letter < 0 || letter > 7) {
            return BAD;
        }
        int set = 0;
        for (int v = 0; v < 10; v++) {
            int[] rations = ration.clone();
            rations[letter] = v;
            set |= comesOut(go(rations, w -> true, true, null)) ? 1 << v : 0;
        }
        return set;
    }

    int ask(int month, int house) {
        if (month < 0 || month > 11 || !isHouse(house)) {
            return BAD;
        }
        int never = never();
        int[] greatest = new int[8];
        for (int l = 0; l < 8; l++) {
            Map<Integer, Integer> groups = new HashMap<>();
            for (int w = 0; w < writings.size(); w++) {
                if ((never >> w & 1) == 1) {
                    int many = groups.merge(without(w).stock[month][house][l], 1, Integer::sum);
                    greatest[l] = Math.max(greatest[l], many);
                }
            }
        }
        int least = Arrays.stream(greatest).min().getAsInt();
        int letter = 0;
        while (greatest[letter] != least) {
            letter++;
        }
        return letter;
    }

    long censor(int c, int house, int most, int what) {
        if (c < 0 || c > 16 || !isHouse(house) || most < 0 || most > 12 || what < 0 || what > 1) {
            return Long.MIN_VALUE + 2;
        }
        StringBuilder key = new StringBuilder().append(texts[0]).append('/').append(texts[1]).append('/');
        key.append(Arrays.toString(ration)).append(c).append(',').append(house).append(',').append(most);
        writings.forEach(it -> key.append(Arrays.toString(it)));
        lendings.forEach(it -> key.append(Arrays.toString(it)));
        return chances.computeIfAbsent(key.toString(), k -> chance(c, house, most))[what].longValueExact();
    }

    private BigInteger[] chance(int c, int house, int most) {
        int many = writings.size();
        BigInteger above = BigInteger.ZERO;
        BigInteger below = BigInteger.valueOf(16).pow(many);
        for (int set = 0; set < 1 << many; set++) {
            int through = set;
            if (finesIn(go(ration, w -> (through >> w & 1) == 1, true, null), house) <= most) {
                int gone = Integer.bitCount(set);
                above = above.add(BigInteger.valueOf(c).pow(gone).multiply(BigInteger.valueOf(16 - c).pow(many - gone)));
            }
        }
        BigInteger gcd = above.gcd(below);
        return new BigInteger[] {above.divide(gcd), below.divide(gcd)};
    }

    int post(int seed, int month, int house) {
        if (month < 0 || month > 11 || house != NONE && !isHouse(house)) {
            return BAD;
        }
        int[][] posts = null;
        if (houses() > 0 && terms() > 0) {
            posts = new int[month + 1][2];
            int s = seed;
            for (int i = 0; i < 2 * month + 2; i++) {
                s = s * 1103515245 + 12345;
                posts[i / 2][i % 2] = (s >> 16 & 0xffff) % (i % 2 == 0 ? houses() : terms());
            }
        }
        World world = go(ration, w -> true, true, posts);
        return house == NONE ? world.posted : Arrays.stream(world.stock[month][house]).sum();
    }

    // ---- sheets

    private int found(int number) {
        finding = number;
        return -10 - number;
    }

    private int size(int s) {
        return java.lang.reflect.Array.getLength(sheets[s]);
    }

    private int form(int s) {
        return sheets[s] instanceof byte[] ? 0 : sheets[s] instanceof short[] ? 1 : 2;
    }

    private int item(int s, int i) {
        return java.lang.reflect.Array.getInt(sheets[s], i);
    }

    private void put(int s, int i, int v) {
        if (sheets[s] instanceof byte[] row) {
            row[i] = (byte) v;
        } else if (sheets[s] instanceof short[] row) {
            row[i] = (short) v;
        } else if (sheets[s] instanceof int[] row) {
            row[i] = v;
        }
    }

    int sheet(int s, int form, int n) {
        if (s < 0 || s > 3 || form < 0 || form > 2 || n > 60) {
            return BAD;
        }
        if (n < 0) {
            return found(5);
        }
        sheets[s] = form == 0 ? new byte[n] : form == 1 ? new short[n] : new int[n];
        return n;
    }

    int lose(int s) {
        if (s < 0 || s > 3) {
            return BAD;
        }
        if (sheets[s] == null) {
            return found(1);
        }
        int had = size(s);
        sheets[s] = null;
        return had;
    }

    int lay(int s, int form, int i, int v) {
        if (s < 0 || s > 3 || form < 0 || form > 2) {
            return BAD;
        }
        if (sheets[s] == null) {
            return found(1);
        }
        if (form(s) != form) {
            return found(3);
        }
        if (i < 0 || i >= size(s)) {
            return found(2);
        }
        put(s, i, v);
        return 1;
    }

    int get(int s, int form, int i) {
        if (s < 0 || s > 3 || form < 0 || form > 2) {
            return LEAST;
        }
        int number = sheets[s] == null ? 1 : form(s) != form ? 3 : i < 0 || i >= size(s) ? 2 : 0;
        if (number != 0) {
            found(number);
            return LEAST;
        }
        return item(s, i);
    }

    int copy(int s, int i, int t, int j, int n) {
        if (s < 0 || s > 3 || t < 0 || t > 3) {
            return BAD;
        }
        if (sheets[s] == null || sheets[t] == null) {
            return found(1);
        }
        try {
            System.arraycopy(sheets[s], i, sheets[t], j, n);
        } catch (ArrayStoreException unlike) {
            return found(4);
        } catch (IndexOutOfBoundsException outside) {
            return found(2);
        }
        return 1;
    }

    int write(int month, int house, int s) {
        if (month < 0 || month > 11 || !isHouse(house) || s < 0 || s > 3) {
            return BAD;
        }
        if (sheets[s] == null) {
            return found(1);
        }
        int many = 0;
        for (int l = 0; l < 8 && l < size(s); l++) {
            put(s, l, has(month, house, l));
            many++;
        }
        return many;
    }

    int count(int what) {
        if (what < 0 || what > 8) {
            return BAD;
        }
        int fined = 0;
        for (int h = 0; h < houses(); h++) {
            fined += fines(h);
        }
        return new int[] {houses(), terms(), texts[0].length(), texts[1].length(), writings.size(), lendings.size(),
            fined, seen.size(), finding}[what];
    }

    long digest() {
        List<Long> row = new ArrayList<>();
        for (int what = 0; what < 8; what++) {
            row.add((long) count(what));
        }
        row.add((long) fault(0));
        row.add((long) fault(1));
        for (int h = 0; h < houses(); h++) {
            long[] of = {house(h, 0), house(h, 1), has(0, h, -1), has(11, h, -1), has(5, h, 0), fines(h), most(3, h, 0),
                most(3, h, 1), say(3, h, 1), ask(3, h), censor(5, h, 1, 0), censor(5, h, 1, 1), post(7, 9, h)};
            for (long v : of) {
                row.add(v);
            }
        }
        for (int t = 0; t < terms(); t++) {
            for (int what = 0; what < 10; what++) {
                row.add((long) word(t, what));
            }
            row.add((long) papers(t, 0));
            row.add((long) papers(t, 1));
            row.add((long) meant(t));
        }
        for (int w = 0; w < writings.size(); w++) {
            row.add((long) became(w));
            row.add((long) lend(w));
        }
        for (int l = 0; l < 8; l++) {
            row.add((long) spent(l));
            row.add((long) got(l));
        }
        for (long v : new long[] {bare(0), bare(1), never(), post(7, 9, -1)}) {
            row.add(v);
        }
        long h = 17;
        for (long v : row) {
            h = 31 * h + v;
        }
        return h;
    }
}
