import java.io.IOException;
import java.lang.reflect.Constructor;
import java.lang.reflect.Field;
import java.lang.reflect.Method;
import java.lang.reflect.Modifier;
import java.nio.file.Files;
import java.nio.file.Path;
import java.util.Set;
import java.util.TreeSet;
import java.util.regex.Matcher;
import java.util.regex.Pattern;

/** The public face, and the rules of LANGUAGE.md that can be read off the class and its source. */
public final class FaceTest {
    private static final Set<String> NAMES = new TreeSet<>();
    /** What the class calls of the library; rule 4 has more, but a new one is to be looked up there first. */
    private static final Set<String> LIBRARY = Set.of("Math.max", "Math.min", "Integer.bitCount", "Arrays.fill", "System.arraycopy");

    public static void main(String[] args) throws IOException {
        members();
        classesInside();
        source();
        Check.end("FaceTest");
    }

    private static void members() throws IOException {
        Class<?> face = OunceLetters.class;
        Check.due("the class is public and final", Modifier.isPublic(face.getModifiers()) && Modifier.isFinal(face.getModifiers()));
        Set<String> want = faceOfDocument();
        Set<String> got = new TreeSet<>();
        for (Method m : face.getDeclaredMethods()) {
            if (Modifier.isPublic(m.getModifiers())) {
                got.add(signature(m));
                NAMES.add(m.getName());
            }
        }
        Check.due("methods of the document", want.size(), 36);
        Check.due("public methods are those of the document: " + got, got.equals(want));
        for (Method m : face.getDeclaredMethods()) {
            boolean isHidden = Modifier.isPrivate(m.getModifiers());
            Check.due("a method is public or private: " + m, isHidden || Modifier.isPublic(m.getModifiers()));
            Check.due("no private method bears a public name: " + m, !isHidden || !NAMES.contains(m.getName()));
            Check.due("seven parameters at most: " + m, m.getParameterCount() <= 7);
        }
        int constants = 0;
        for (Field f : face.getDeclaredFields()) {
            boolean isConstant = Set.of("NONE", "BAD", "NOT", "FULL").contains(f.getName());
            constants += isConstant ? 1 : 0;
            Check.due("field " + f, isConstant ? Modifier.isPublic(f.getModifiers()) : Modifier.isPrivate(f.getModifiers()));
            Check.due("a static field is final: " + f, !Modifier.isStatic(f.getModifiers()) || Modifier.isFinal(f.getModifiers()));
        }
        Check.due("constants", constants, 4);
        Check.due("NONE", OunceLetters.NONE, -1);
        Check.due("BAD", OunceLetters.BAD, -2);
        Check.due("NOT", OunceLetters.NOT, -3);
        Check.due("FULL", OunceLetters.FULL, -4);
        Constructor<?>[] made = face.getDeclaredConstructors();
        Check.due("one constructor", made.length == 1 && made[0].getParameterCount() == 0 && Modifier.isPublic(made[0].getModifiers()));
    }

    private static Set<String> faceOfDocument() throws IOException {
        Set<String> face = new TreeSet<>();
        Matcher told = Pattern.compile("    public (\\w+ \\w+)\\((.*)\\);").matcher(Files.readString(Path.of("../shared/DOC.md")));
        while (told.find()) {
            face.add(told.group(1) + "(" + told.group(2).replaceAll("(\\w+) \\w+", "$1").replace(" ", "") + ")");
        }
        return face;
    }

    private static String signature(Method m) {
        StringBuilder s = new StringBuilder(m.getReturnType().getName()).append(' ').append(m.getName()).append('(');
        for (Class<?> p : m.getParameterTypes()) {
            s.append(s.charAt(s.length() - 1) == '(' ? "" : ",").append(p.getName());
        }
        return s.append(')').toString();
    }

    private static void classesInside() {
        Class<?>[] inside = OunceLetters.class.getDeclaredClasses();
        Check.due("twelve classes at most", inside.length + 1 <= 12);
        for (Class<?> c : inside) {
            Check.due("static: " + c, Modifier.isStatic(c.getModifiers()));
            Check.due("not public: " + c, !Modifier.isPublic(c.getModifiers()) && !Modifier.isProtected(c.getModifiers()));
            int own = 0;
            for (Field f : c.getDeclaredFields()) {
                boolean isStatic = Modifier.isStatic(f.getModifiers());
                own += isStatic ? 0 : 1;
                Check.due("a static field is final: " + f, !isStatic || Modifier.isFinal(f.getModifiers()));
            }
            Check.due("twenty fields at most: " + c, own <= 20);
            for (Method m : c.getDeclaredMethods()) {
                Check.due("no method inside bears a public name: " + m, !NAMES.contains(m.getName()));
                Check.due("seven parameters at most: " + m, m.getParameterCount() <= 7);
            }
        }
    }

    private static void source() throws IOException {
        String text = Files.readString(Path.of("src/main/java/OunceLetters.java"));
        String bare = text.replaceAll("(?s)/\\*.*?\\*/", "").replaceAll("//[^\n]*", "");
        for (String word : new String[] {"throw", "throws", "try", "catch", "finally", "synchronized", "assert", "volatile",
            "native", "protected", "package", "var", "Object", "hashCode", "toString", "Random", "Thread"}) {
            Check.due("no '" + word + "'", !bare.matches("(?s).*\\b" + word + "\\b.*"));
        }
        Check.due("no lambda", !bare.contains("->"));
        Check.due("no method reference", !bare.contains("::"));
        Check.due("no Exact", !bare.contains("Exact("));
        Check.due("no joined texts", !bare.contains("\""));
        for (String line : bare.split("\n")) {
            Check.due("imports: " + line, !line.startsWith("import") || line.equals("import java.util.Arrays;"));
        }
        Matcher called = Pattern.compile("\\b[A-Z]\\w*\\.\\w+(?=\\()").matcher(bare);
        while (called.find()) {
            Check.due("the library has " + called.group(), LIBRARY.contains(called.group()));
        }
        methodLengths(text);
    }

    private static void methodLengths(String text) {
        String[] lines = text.split("\n");
        for (int i = 0; i < lines.length; i++) {
            if (lines[i].matches(" {4}(?: {4})?[\\w\\[\\]]+ ?[\\w\\[\\] ]*\\([^;]*[{,]") && !lines[i].trim().matches("(if|for|while|switch|return).*")) {
                String end = lines[i].replaceAll("\\S.*", "") + "}";
                int j = i;
                while (j < lines.length && !lines[j].equals(end)) {
                    j++;
                }
                Check.due("some sixty lines at most: " + lines[i], j - i <= 60);
            }
        }
    }
}
