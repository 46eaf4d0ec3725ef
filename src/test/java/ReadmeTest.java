import java.io.IOException;
import java.lang.reflect.Method;
import java.lang.reflect.Modifier;
import java.net.URL;
import java.net.URLClassLoader;
import java.nio.file.Files;
import java.nio.file.Path;
import java.util.ArrayList;
import java.util.Comparator;
import java.util.List;
import java.util.Set;
import java.util.TreeSet;
import java.util.function.Supplier;
import java.util.regex.Matcher;
import java.util.regex.Pattern;
import java.util.stream.Stream;
import javax.tools.JavaCompiler;
import javax.tools.ToolProvider;

/** What README.md shows is so: its program, its answers, the names of the tests. */
public final class ReadmeTest {
    private static final Pattern BLOCK = Pattern.compile("```java\n(.*?)```", Pattern.DOTALL);
    private static final Pattern SHOWN = Pattern.compile("x\\.(\\w+)\\(.*\\); +// (-?\\d+)(?:: .*)?");
    private static final Pattern UNSHOWN = Pattern.compile("OunceLetters x = new OunceLetters\\(\\);|for \\(char b : \"[^\"]*\""
        + "\\.toCharArray\\(\\)\\) x\\.type\\([01], b\\);");
    private static final String PROGRAM = "ReadmeProgram";

    private final String text = Files.readString(Path.of("README.md"));
    private final List<String> calls = new ArrayList<>();
    private final List<Long> wants = new ArrayList<>();
    private final Set<String> names = new TreeSet<>();

    private ReadmeTest() throws IOException {
    }

    public static void main(String[] args) throws Exception {
        ReadmeTest test = new ReadmeTest();
        test.answers();
        test.allCallsShown();
        test.allTestsNamed();
        Check.end("ReadmeTest");
    }

    private void answers() throws Exception {
        List<Long> got = run(program());
        Check.due("the program's answers", got.size(), wants.size());
        for (int i = 0; i < wants.size() && i < got.size(); i++) {
            Check.due("README: " + calls.get(i), got.get(i), wants.get(i));
        }
    }

    /** The blocks of the page one behind the other, each shown call handing its answer to a list. */
    private String program() {
        StringBuilder body = new StringBuilder();
        Matcher block = BLOCK.matcher(text);
        while (block.find()) {
            for (String line : block.group(1).split("\n")) {
                body.append("        ").append(statement(line)).append('\n');
            }
        }
        return "import java.util.*;\npublic final class " + PROGRAM + " implements java.util.function.Supplier<List<Long>> {\n"
            + "    public List<Long> get() {\n        List<Long> got = new ArrayList<>();\n" + body + "        return got;\n    }\n}\n";
    }

    private String statement(String line) {
        Matcher shown = SHOWN.matcher(line);
        if (!shown.matches()) {
            Check.due("a line shows a call and its answer: " + line, UNSHOWN.matcher(line).matches());
            return line;
        }
        String call = line.substring(0, line.indexOf(';', line.lastIndexOf(");")));
        calls.add(call);
        names.add(shown.group(1));
        wants.add(Long.parseLong(shown.group(2)));
        return "got.add((long) " + call + ");";
    }

    @SuppressWarnings("unchecked")
    private static List<Long> run(String program) throws Exception {
        JavaCompiler compiler = ToolProvider.getSystemJavaCompiler();
        if (compiler == null) {
            throw new IllegalStateException("no compiler");
        }
        Path folder = Files.createTempDirectory("readme");
        try {
            Path file = Files.writeString(folder.resolve(PROGRAM + ".java"), program);
            String known = System.getProperty("java.class.path");
            int code = compiler.run(null, System.out, System.out, "-cp", known, "-d", folder.toString(), file.toString());
            Check.due("compiling the program of README", code, 0);
            if (code != 0) {
                return List.of();
            }
            try (URLClassLoader loader = new URLClassLoader(new URL[] {folder.toUri().toURL()})) {
                Object made = loader.loadClass(PROGRAM).getDeclaredConstructor().newInstance();
                return ((Supplier<List<Long>>) made).get();
            }
        } finally {
            remove(folder);
        }
    }

    private static void remove(Path folder) throws IOException {
        try (Stream<Path> all = Files.walk(folder)) {
            for (Path one : all.sorted(Comparator.reverseOrder()).toList()) {
                Files.delete(one);
            }
        }
    }

    private void allCallsShown() {
        for (Method m : OunceLetters.class.getDeclaredMethods()) {
            if (Modifier.isPublic(m.getModifiers())) {
                Check.due("README shows " + m.getName() + " with an answer", names.contains(m.getName()));
            }
        }
    }

    private void allTestsNamed() throws IOException {
        Set<String> files = new TreeSet<>();
        try (Stream<Path> all = Files.list(Path.of("src/test/java"))) {
            all.forEach(file -> files.add(file.getFileName().toString().replace(".java", "")));
        }
        for (String file : files) {
            Check.due("README names " + file, text.contains("`" + file + "`"));
        }
        Matcher named = Pattern.compile("`(\\w+(?:Test|Boundaries))`").matcher(text);
        while (named.find()) {
            Check.due("there is a file of " + named.group(1), files.contains(named.group(1)));
        }
    }
}
