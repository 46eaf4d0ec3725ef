import java.util.Random;

/** Long runs of calls by fixed seeds, each answer held against the model's. */
public final class ModelTest {
    private static final String[] CALLS = {
        "type tB", "wipe t", "undo t", "fault t", "house Hb", "word Wd", "ration Lr", "writing MHW", "lending MHHL",
        "back b", "read S", "has MHl", "became w", "fines H", "spent L", "bare b", "say MHm", "most MHb",
        "papers Wb", "lend w", "meant W", "seen MHLn", "forget", "never", "got L", "ask MH", "censor cHkb", "post oMp",
        "sheet SFN", "lose S", "lay SFiv", "get SFi", "copy SiSiN", "write MHS", "count C", "digest"};
    /** How often each call comes; texts are mostly typed whole, so single bytes come seldom. */
    private static final int[] WEIGHTS = {
        3, 1, 3, 3, 4, 4, 10, 25, 14,
        5, 5, 20, 10, 6, 6, 6, 8, 6,
        6, 8, 5, 14, 2, 6, 6, 8, 6, 8,
        8, 2, 30, 12, 8, 6, 6, 2};

    private final Random random;
    private final OunceLetters x = new OunceLetters();
    private final Model model = new Model();
    private final StringBuilder told = new StringBuilder();
    private final int mostWritings;

    private ModelTest(long seed) {
        random = new Random(seed);
        mostWritings = random.nextInt(5) == 0 ? 12 : random.nextInt(8);
    }

    public static void main(String[] args) {
        long first = args.length > 0 ? Long.parseLong(args[0]) : 1;
        long last = args.length > 1 ? Long.parseLong(args[1]) : 60;
        for (long seed = first; seed <= last && !Check.anyWrong(); seed++) {
            new ModelTest(seed).go(seed);
        }
        Check.end("ModelTest");
    }

    private void go(long seed) {
        int calls = 0;
        while (calls < 512 && !Check.anyWrong()) {
            if (calls == 0 || random.nextInt(90) == 0) {
                calls += retype(0);
                calls += retype(1);
            }
            hold("seed " + seed, nextCall());
            calls++;
        }
        hold("seed " + seed, new Call("digest", new int[0]));
    }

    private record Call(String name, int[] a) {
    }

    private int retype(int text) {
        StringBuilder bytes = new StringBuilder();
        int many = random.nextInt(9);
        for (int i = 0; i < many; i++) {
            bytes.append(i == 0 ? "" : ";").append(text == 0 ? randomHouse() : randomTerm());
        }
        if (random.nextInt(12) == 0) {
            bytes.append("rmv;a0;9x".charAt(random.nextInt(9)));
        }
        hold("retype", new Call("wipe", new int[] {text}));
        for (int i = 0; i < bytes.length(); i++) {
            hold("retype", new Call("type", new int[] {text, bytes.charAt(i)}));
        }
        return bytes.length() + 1;
    }

    private String randomHouse() {
        return "" + "rmv".charAt(random.nextInt(3)) + (1 + random.nextInt(random.nextInt(3) == 0 ? 9 : 2));
    }

    private String randomTerm() {
        StringBuilder term = new StringBuilder();
        int size = 1 + random.nextInt(6);
        int letters = random.nextBoolean() ? 8 : 1 + random.nextInt(6);
        for (int i = 0; i < size; i++) {
            term.append((char) ('a' + random.nextInt(letters)));
        }
        return term.append(random.nextInt(4)).toString();
    }

    private Call nextCall() {
        int sum = 0;
        for (int weight : WEIGHTS) {
            sum += weight;
        }
        int at = random.nextInt(sum);
        int i = 0;
        while (at >= WEIGHTS[i]) {
            at -= WEIGHTS[i];
            i++;
        }
        String[] call = CALLS[i].split(" ");
        if (call[0].equals("writing") && model.count(4) >= mostWritings) {
            return new Call("back", new int[] {0});
        }
        String kinds = call.length > 1 ? call[1] : "";
        int[] a = new int[kinds.length()];
        for (int p = 0; p < a.length; p++) {
            a[p] = argument(kinds.charAt(p));
        }
        if (call[0].equals("seen") && random.nextInt(4) != 0) {
            a[3] = likely(a);
        }
        if ((call[0].equals("get") || call[0].equals("lay")) && random.nextInt(3) != 0) {
            a[1] = a[0] % 3;
        }
        if (call[0].equals("sheet") && random.nextInt(3) != 0) {
            a[1] = a[0] % 3;
        }
        return new Call(call[0], a);
    }

    /** What is there, or near it, so that what was seen is not always false. */
    private int likely(int[] a) {
        int has = model.has(a[0], a[1], a[2]);
        return has < 0 ? a[3] : Math.min(99, Math.max(0, has + (random.nextInt(3) == 0 ? random.nextInt(5) - 1 : 0)));
    }

    private int argument(char kind) {
        int most = switch (kind) {
            case 't', 'b' -> 1;
            case 'B' -> 255;
            case 'H', 'p' -> Math.max(0, model.count(0) - (random.nextInt(8) == 0 ? 0 : 1));
            case 'W' -> Math.max(0, model.count(1) - (random.nextInt(8) == 0 ? 0 : 1));
            case 'L', 'l' -> 7;
            case 'M' -> random.nextInt(3) == 0 ? 11 : 3;
            case 'r' -> random.nextInt(3) == 0 ? 9 : 3;
            case 'w' -> Math.max(0, model.count(4) - 1);
            case 'm' -> 3;
            case 'n' -> 20;
            case 'c' -> 16;
            case 'k' -> random.nextInt(3) == 0 ? 12 : 2;
            case 'S' -> 3;
            case 'F' -> 2;
            case 'N', 'i' -> random.nextInt(3) == 0 ? 60 : 9;
            case 'v' -> random.nextInt(3) == 0 ? 70000 : 6;
            case 'C' -> 8;
            case 'd' -> 9;
            case 'o' -> Integer.MAX_VALUE - 1;
            default -> throw new IllegalStateException("kind " + kind);
        };
        if (kind == 'o') {
            return random.nextInt();
        }
        if (random.nextInt(25) == 0) {
            int[] odd = {-1, -2, most + 1, most + 2, Integer.MAX_VALUE, Integer.MIN_VALUE, 8, 12, 13, 100, 256};
            return odd[random.nextInt(odd.length)];
        }
        int least = kind == 'l' || kind == 'p' ? -1 : 0;
        return least + random.nextInt(most - least + 1);
    }

    private void hold(String what, Call call) {
        told.append(call.name()).append(java.util.Arrays.toString(call.a())).append(' ');
        boolean wasWrong = Check.anyWrong();
        long got = Calls.on(x, call.name(), call.a());
        Check.due(what + ": " + call.name() + java.util.Arrays.toString(call.a()), got, Calls.on(model, call.name(), call.a()));
        if (Check.anyWrong() && !wasWrong) {
            System.out.println(told);
        }
    }
}
