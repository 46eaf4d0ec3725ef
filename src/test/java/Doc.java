import java.io.IOException;
import java.nio.file.Files;
import java.nio.file.Path;
import java.util.ArrayList;
import java.util.BitSet;
import java.util.List;

/** The sentences of the document, so that a test can say which one it holds, and none is left without a test. */
final class Doc {
    private static final int PROMISES = 37;
    /** A point or semicolon ends a sentence, but neither the two points of "0 .. 3" nor the sign of "with ; between". */
    private static final String END = "(?<=[^. ][.;])\\s+";

    /** Index 0 has what stands ahead of the promises; the others have each promise's own. */
    private final List<String> parts = new ArrayList<>();
    /** Of each part, which signs are in a sentence, or a part of one, that a test holds. */
    private final List<BitSet> held = new ArrayList<>();

    Doc() {
        String all = text();
        parts.add(general(all));
        for (int promise = 1; promise <= PROMISES; promise++) {
            parts.add(ownOf(all, promise));
        }
        parts.forEach(part -> held.add(new BitSet()));
    }

    private static String text() {
        try {
            return Files.readString(Path.of("../shared/DOC.md"));
        } catch (IOException missing) {
            throw new IllegalStateException("no document", missing);
        }
    }

    private static String between(String all, String start, String end) {
        int from = all.indexOf(start);
        int to = all.indexOf(end, from + start.length());
        if (from < 0 || to < 0) {
            throw new IllegalStateException("the document has no '" + start + "' ahead of '" + end + "'");
        }
        return all.substring(from + start.length(), to);
    }

    private static String general(String all) {
        String rules = between(all, "======== 1 ", "## The public face") + between(all, "## Terms", "Ahead of the calls");
        return rules.replaceAll("```(text)?|======== \\d", " ").replaceAll("\\s+", " ").trim();
    }

    private static String ownOf(String all, int promise) {
        String end = promise == PROMISES ? "## Not promised" : "## Promise " + (promise + 1) + ":";
        String section = between(all, "## Promise " + promise + ":", end);
        return section.substring(section.indexOf("`: ") + 3).replaceAll("\\s+", " ").trim();
    }

    /** A test holds this sentence, or this part of one, of a promise or else of what its words mean. */
    void hold(int promise, String sentence) {
        if (!isHeldIn(promise, sentence) && !isHeldIn(0, sentence)) {
            Check.due("promise " + promise + " says '" + sentence + "'", false);
        }
    }

    private boolean isHeldIn(int part, String sentence) {
        String all = parts.get(part);
        for (int at = all.indexOf(sentence); at >= 0; at = all.indexOf(sentence, at + 1)) {
            held.get(part).set(at, at + sentence.length());
        }
        return all.contains(sentence);
    }

    /** Every word stands in a quote; only signs between quotes may stand in none. */
    void dueAllHeld() {
        int many = 0;
        for (int part = 0; part < parts.size(); part++) {
            int from = 0;
            for (String one : parts.get(part).split(END)) {
                from = parts.get(part).indexOf(one, from);
                String left = unheld(part, from, from + one.length());
                Check.due("a test holds '" + left + "' of '" + one + "' (" + part + ")", left.isEmpty());
                many++;
                from += one.length();
            }
        }
        System.out.println("each word of " + many + " sentences of the document has a test");
    }

    private String unheld(int part, int from, int to) {
        StringBuilder left = new StringBuilder();
        for (int at = from; at < to; at++) {
            left.append(held.get(part).get(at) ? ' ' : parts.get(part).charAt(at));
        }
        return left.toString().replaceAll("[^A-Za-z0-9]+", " ").trim();
    }
}
