import java.io.IOException;
import java.lang.reflect.Constructor;
import java.lang.reflect.Field;
import java.lang.reflect.Method;
import java.lang.reflect.Modifier;
import java.nio.file.Files;
import java.nio.file.Path;
import java.util.Set;
import java.util.TreeSet;

/** The public face, and the rules of LANGUAGE.md that can be read off the class and its source. */
public final class FaceTest {
    private static final String[] METHODS = {
        "int type(int,int)", "int wipe(int)", "int undo(int)", "int fault(int)", "int house(int,int)",
        "int word(int,int)", "int ration(int,int)", "int writing(int,int,int)", "int lending(int,int,int,int)",
        "int back(int)", "int read(int)", "int has(int,int,int)", "int became(int)", "int fines(int)",
        "int spent(int)", "int bare(int)", "int say(int,int,int)", "int most(int,int,int)", "int papers(int,int)",
        "int lend(int)", "int meant(int)", "int seen(int,int,int,int)", "int forget()", "int never()", "int got(int)",
        "int ask(int,int)", "long censor(int,int,int,int)", "int post(int,int,int)", "int sheet(int,int,int)",
        "int lose(int)", "int lay(int,int,int,int)", "int get(int,int,int)", "int copy(int,int,int,int,int)",
        "int write(int,int,int)", "int count(int)", "long digest()"};

    public static void main(String[] args) throws IOException {
        members();
        classesInside();
        source();
        Check.end("FaceTest");
    }

    private static void members() {
        Class<?> face = OunceLetters.class;
        Check.due("the class is public and final", Modifier.isPublic(face.getModifiers()) && Modifier.isFinal(face.getModifiers()));
        Set<String> want = new TreeSet<>(Set.of(METHODS));
        Set<String> got = new TreeSet<>();
        Set<String> names = new TreeSet<>();
        for (Method m : face.getDeclaredMethods()) {
            if (Modifier.isPublic(m.getModifiers())) {
                got.add(signature(m));
                names.add(m.getName());
            }
        }
        Check.due("public methods are those of the document: " + got, got.equals(want));
        for (Method m : face.getDeclaredMethods()) {
            boolean isHidden = Modifier.isPrivate(m.getModifiers());
            Check.due("a method is public or private: " + m, isHidden || Modifier.isPublic(m.getModifiers()));
            Check.due("no private method bears a public name: " + m, !isHidden || !names.contains(m.getName()));
            Check.due("seven parameters at most: " + m, m.getParameterCount() <= 7);
        }
        int constants = 0;
        for (Field f : face.getDeclaredFields()) {
            boolean isConstant = Set.of("NONE", "BAD", "NOT", "FULL").contains(f.getName());
            constants += isConstant ? 1 : 0;
            Check.due("field " + f, isConstant ? Modifier.isPublic(f.getModifiers()) : Modifier.isPrivate(f.getModifiers()));
            Check.due("a static field is final: " + f, !Modifier.isStatic(f.getModifiers()) || Modifier.isFinal(f.getModifiers()));
        }
        Check.due("constants", constants, 4);
        Check.due("NONE", OunceLetters.NONE, -1);
        Check.due("BAD", OunceLetters.BAD, -2);
        Check.due("NOT", OunceLetters.NOT, -3);
        Check.due("FULL", OunceLetters.FULL, -4);
        Constructor<?>[] made = face.getDeclaredConstructors();
        Check.due("one constructor", made.length == 1 && made[0].getParameterCount() == 0 && Modifier.isPublic(made[0].getModifiers()));
    }

    private static String signature(Method m) {
        StringBuilder s = new StringBuilder(m.getReturnType().getName()).append(' ').append(m.getName()).append('(');
        for (Class<?> p : m.getParameterTypes()) {
            s.append(s.charAt(s.length() - 1) == '(' ? "" : ",").append(p.getName());
        }
        return s.append(')').toString();
    }

    private static void classesInside() {
        Class<?>[] inside = OunceLetters.class.getDeclaredClasses();
        Check.due("twelve classes at most", inside.length + 1 <= 12);
        for (Class<?> c : inside) {
            Check.due("static: " + c, Modifier.isStatic(c.getModifiers()));
            Check.due("not public: " + c, !Modifier.isPublic(c.getModifiers()) && !Modifier.isProtected(c.getModifiers()));
            int own = 0;
            for (Field f : c.getDeclaredFields()) {
                boolean isStatic = Modifier.isStatic(f.getModifiers());
                own += isStatic ? 0 : 1;
                Check.due("a static field is final: " + f, !isStatic || Modifier.isFinal(f.getModifiers()));
            }
            Check.due("twenty fields at most: " + c, own <= 20);
        }
    }

    private static void source() throws IOException {
        String text = Files.readString(Path.of("src/main/java/OunceLetters.java"));
        String bare = text.replaceAll("(?s)/\\*.*?\\*/", "").replaceAll("//[^\n]*", "");
        for (String word : new String[] {"throw", "throws", "try", "catch", "finally", "synchronized", "assert", "volatile",
            "native", "protected", "package", "var", "Object", "hashCode", "toString", "Random", "Thread"}) {
            Check.due("no '" + word + "'", !bare.matches("(?s).*\\b" + word + "\\b.*"));
        }
        Check.due("no lambda", !bare.contains("->"));
        Check.due("no method reference", !bare.contains("::"));
        Check.due("no Exact", !bare.contains("Exact("));
        Check.due("no joined texts", !bare.contains("\""));
        for (String line : bare.split("\n")) {
            Check.due("imports: " + line, !line.startsWith("import") || line.equals("import java.util.Arrays;"));
        }
        methodLengths(text);
    }

    private static void methodLengths(String text) {
        String[] lines = text.split("\n");
        for (int i = 0; i < lines.length; i++) {
            if (lines[i].matches(" {4}(?: {4})?[\\w\\[\\]]+ ?[\\w\\[\\] ]*\\([^;]*[{,]") && !lines[i].trim().matches("(if|for|while|switch|return).*")) {
                String end = lines[i].replaceAll("\\S.*", "") + "}";
                int j = i;
                while (j < lines.length && !lines[j].equals(end)) {
                    j++;
                }
                Check.due("some sixty lines at most: " + lines[i], j - i <= 60);
            }
        }
    }
}
