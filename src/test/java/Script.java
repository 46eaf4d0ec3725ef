import java.util.ArrayList;
import java.util.Arrays;
import java.util.List;
import java.util.Map;
import java.util.Set;

/**
 * Runs of calls told as texts, each on a new object, for one sentence of the document: "writing 0 7 7 = 12" is a call
 * and what is due, "12* writing 0 0 0" twelve of them; "houses r1;m2" and "terms ab1" type texts, "rations 0" sets all
 * rations, "items 0 2 5 6" makes sheet 0 a row of form 2 with items 5 and 6. A call that is refused, or that only asks,
 * must change nothing: what comes behind it is held against a twin to which no such call came.
 */
final class Script {
    private static final int CALLS = 512;
    private static final Map<String, Long> NAMES = Map.ofEntries(
        Map.entry("NONE", -1L), Map.entry("BAD", -2L), Map.entry("NOT", -3L), Map.entry("FULL", -4L),
        Map.entry("NULL", -11L), Map.entry("INDEX", -12L), Map.entry("CAST", -13L), Map.entry("STORE", -14L),
        Map.entry("SIZE", -15L), Map.entry("MIN", (long) Integer.MIN_VALUE), Map.entry("MAX", (long) Integer.MAX_VALUE));
    private static final List<String> FINDINGS = List.of("", "NULL", "INDEX", "CAST", "STORE", "SIZE");
    private static final Set<String> REFUSALS = Set.of("BAD", "NOT", "FULL", "NULL", "INDEX", "CAST", "STORE", "SIZE");
    private static final Set<String> CHANGERS = Set.of("type", "wipe", "undo", "ration", "writing", "lending", "back",
        "read", "seen", "forget", "sheet", "lose", "lay", "copy", "write");
    private static final List<List<Step>> PROBES = probes();
    private static final Doc DOC = new Doc();

    /** What is due is a number, a name of one, CALLS (a digest by calls), or null where the answer is not looked at. */
    private record Step(String name, int[] a, String want) {
        boolean isRefused() {
            return want != null && REFUSALS.contains(want);
        }

        boolean changesNothing() {
            return isRefused() || !CHANGERS.contains(name);
        }

        @Override
        public String toString() {
            return name + Arrays.toString(a);
        }
    }

    private Script() {
    }

    static void dueAllHeld() {
        DOC.dueAllHeld();
    }

    /** What a test of another form found for a sentence. */
    static void note(int promise, String sentence, String what, boolean holds) {
        DOC.hold(promise, sentence);
        Check.due(label(promise, sentence) + " " + what, holds);
    }

    /** A run for a sentence; whatever is refused or asked in it changes nothing. */
    static void hold(int promise, String sentence, String... told) {
        List<Step> steps = quick(promise, sentence, told);
        for (int k = 0; k < steps.size(); k++) {
            if (steps.get(k).changesNothing()) {
                dueUnchanged(label(promise, sentence), steps, k);
            }
        }
    }

    /** A run for a sentence, for its answers alone. */
    static List<Step> quick(int promise, String sentence, String... told) {
        DOC.hold(promise, sentence);
        List<Step> steps = expand(told);
        OunceLetters x = new OunceLetters();
        for (int k = 0; k < steps.size(); k++) {
            Step step = steps.get(k);
            long got = Calls.on(x, step.name, step.a);
            if (step.want != null) {
                Check.due(label(promise, sentence) + " call " + (k + 1) + ", " + step, got, due(steps, k));
            }
        }
        Check.due(label(promise, sentence) + " has 512 calls at most", steps.size() <= CALLS);
        return steps;
    }

    /** The argument at '?' may be least and greatest; one below, one above and the ends of ints are BAD. */
    static void range(int promise, String sentence, String state, String call, int least, int greatest) {
        for (int v : new int[] {least, greatest}) {
            taken(promise, sentence, state, call.replace("?", "" + v));
        }
        for (int v : new int[] {least - 1, greatest + 1, Integer.MIN_VALUE, Integer.MAX_VALUE}) {
            hold(promise, sentence, with(state, call.replace("?", "" + v) + " = BAD"));
        }
    }

    /** A call that is not BAD. */
    static void taken(int promise, String sentence, String state, String call) {
        DOC.hold(promise, sentence);
        List<Step> steps = expand(with(state, call));
        OunceLetters x = run(steps, steps.size() - 1);
        Step last = steps.get(steps.size() - 1);
        long bad = number(last.name, "BAD");
        Check.due(label(promise, sentence) + " " + last + " is taken", Calls.on(x, last.name, last.a) != bad);
    }

    private static String[] with(String state, String call) {
        return state.isEmpty() ? new String[] {call} : (state + " / " + call).split(" / ");
    }

    private static String label(int promise, String sentence) {
        return "promise " + promise + " '" + sentence + "'";
    }

    private static long due(List<Step> steps, int k) {
        Step step = steps.get(k);
        return step.want.equals("CALLS") ? Calls.digestOf(runChanges(steps, k)) : number(step.name, step.want);
    }

    private static long number(String name, String want) {
        if (name.equals("get") && REFUSALS.contains(want)) {
            return Integer.MIN_VALUE;
        }
        if (name.equals("censor") && REFUSALS.contains(want)) {
            return Long.MIN_VALUE - NAMES.get(want);
        }
        return number(want);
    }

    private static long number(String told) {
        return NAMES.containsKey(told) ? NAMES.get(told) : Long.parseLong(told);
    }

    private static OunceLetters run(List<Step> steps, int many) {
        OunceLetters x = new OunceLetters();
        for (Step step : steps.subList(0, many)) {
            Calls.on(x, step.name, step.a);
        }
        return x;
    }

    /** The same without what is refused or asked, so that nothing that was kept from an answer can hide. */
    private static OunceLetters runChanges(List<Step> steps, int many) {
        OunceLetters x = new OunceLetters();
        for (Step step : steps.subList(0, many)) {
            if (!step.changesNothing()) {
                Calls.on(x, step.name, step.a);
            }
        }
        return x;
    }

    /** Step k changed nothing: not count() 8 but by a finding, and no answer that later calls give. */
    private static void dueUnchanged(String label, List<Step> steps, int k) {
        Step step = steps.get(k);
        long latest = Calls.on(run(steps, k), "count", 8);
        int finding = step.want == null ? -1 : FINDINGS.indexOf(step.want);
        Check.due(label + " " + step + " and count(8)", Calls.on(run(steps, k + 1), "count", 8), finding > 0 ? finding : latest);
        for (List<Step> probe : PROBES) {
            OunceLetters x = run(steps, k + 1);
            OunceLetters twin = runChanges(steps, k);
            int many = Math.min(probe.size(), CALLS - k - 1);
            for (Step asked : probe.subList(0, Math.max(0, many))) {
                long got = Calls.on(x, asked.name, asked.a);
                long want = Calls.on(twin, asked.name, asked.a);
                if (got != want) {
                    Check.due(label + " " + step + " changed " + asked, got, want);
                    return;
                }
            }
        }
    }

    private static List<Step> expand(String... told) {
        List<Step> steps = new ArrayList<>();
        for (String one : told) {
            expand(one, steps);
        }
        return steps;
    }

    private static void expand(String told, List<Step> steps) {
        String[] sides = told.split(" = ");
        String[] words = sides[0].split(" ");
        int times = 1;
        if (words[0].endsWith("*")) {
            times = Integer.parseInt(words[0].substring(0, words[0].length() - 1));
            words = Arrays.copyOfRange(words, 1, words.length);
        }
        switch (words[0]) {
            case "houses", "terms" -> {
                for (char b : words[1].toCharArray()) {
                    steps.add(new Step("type", new int[] {words[0].equals("houses") ? 0 : 1, b}, null));
                }
            }
            case "rations" -> {
                for (int letter = 0; letter < 8; letter++) {
                    steps.add(new Step("ration", new int[] {letter, Integer.parseInt(words[1])}, null));
                }
            }
            case "items" -> expandItems(arguments(words), steps);
            default -> {
                for (int i = 0; i < times; i++) {
                    steps.add(new Step(words[0], arguments(words), sides.length > 1 ? sides[1] : null));
                }
            }
        }
    }

    private static void expandItems(int[] a, List<Step> steps) {
        steps.add(new Step("sheet", new int[] {a[0], a[1], a.length - 2}, null));
        for (int i = 2; i < a.length; i++) {
            steps.add(new Step("lay", new int[] {a[0], a[1], i - 2, a[i]}, null));
        }
    }

    private static int[] arguments(String[] words) {
        int[] a = new int[words.length - 1];
        for (int i = 0; i < a.length; i++) {
            String word = words[i + 1];
            a[i] = word.startsWith("'") ? word.charAt(1) : (int) number(word);
        }
        return a;
    }

    /** Rows of calls, each for an object of its own, whose answers tell all that later calls could ever tell. */
    private static List<List<Step>> probes() {
        List<List<Step>> all = new ArrayList<>();
        all.add(ofWorld());
        all.add(ofTexts());
        for (int s = 0; s < 4; s++) {
            all.add(ofSheet(s));
        }
        return all;
    }

    private static List<Step> ofWorld() {
        List<String> told = new ArrayList<>();
        for (int what = 0; what < 8; what++) {
            told.add("count " + what);
        }
        told.add("digest");
        told.addAll(List.of("wipe 0", "wipe 1", "houses r1;m2;v3;r4;m5;v6;r7;m8", "terms a1;b2;c3;d4;e5;f6;g7;h8", "digest"));
        for (int house = 0; house < 8; house++) {
            for (int letter = 0; letter < 8; letter++) {
                told.add("has 11 " + house + " " + letter);
            }
        }
        told.add("never");
        told.add("forget");
        for (int i = 0; i < 12; i++) {
            told.addAll(List.of("became 0", "lend 0", "back 0", "has 11 1 NONE", "has 5 4 NONE", "has 0 0 NONE"));
        }
        for (int i = 0; i < 8; i++) {
            told.addAll(List.of("back 1", "has 11 1 NONE", "has 5 4 NONE", "has 0 0 NONE"));
        }
        for (int letter = 0; letter < 8; letter++) {
            told.add("ration " + letter + " 2");
        }
        return expand(told.toArray(new String[0]));
    }

    /** A byte behind a fault never matters, so the faults of all beginnings tell a text. */
    private static List<Step> ofTexts() {
        List<String> told = new ArrayList<>();
        for (int i = 0; i < 24; i++) {
            told.addAll(List.of("fault 0", "count 0", "undo 0"));
        }
        for (int i = 0; i < 56; i++) {
            told.addAll(List.of("fault 1", "count 1", "undo 1"));
        }
        return expand(told.toArray(new String[0]));
    }

    private static List<Step> ofSheet(int s) {
        List<String> told = new ArrayList<>();
        for (int form = 0; form < 3; form++) {
            // A finding first, so that count() 8 is alike whatever came ahead.
            told.addAll(List.of("sheet 0 0 -1", "get " + s + " " + form + " 0", "count 8"));
        }
        for (int i = 0; i < 60; i++) {
            told.addAll(List.of("get " + s + " 0 " + i, "get " + s + " 1 " + i, "get " + s + " 2 " + i));
        }
        told.add("lose " + s);
        return expand(told.toArray(new String[0]));
    }
}
