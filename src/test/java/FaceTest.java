import java.io.IOException;
import java.lang.reflect.Constructor;
import java.lang.reflect.Field;
import java.lang.reflect.Method;
import java.lang.reflect.Modifier;
import java.nio.file.Files;
import java.nio.file.Path;
import java.util.ArrayList;
import java.util.List;
import java.util.Set;
import java.util.TreeSet;
import java.util.regex.Matcher;
import java.util.regex.Pattern;

/** The class has the face that the document prints, and nothing else that can be seen from outside. */
public final class FaceTest {
    private static final Path PROGRAM = Path.of("src/main/java/CertHerd.java");
    private static final Pattern PROMISE = Pattern.compile("`([^`]*\\([^`]*)`: .*");
    private static final Pattern GROUP = Pattern.compile("Ahead of the calls (.*) the interface says: (---- .*)\\.");
    private static final Pattern PUBLIC_CALL = Pattern.compile("public (?:int|void|boolean) (\\w+)\\(");

    private static final String I = " throws IndexOutOfBoundsException";
    private static final String A = " throws IllegalArgumentException";
    private static final String IA = I + " IllegalArgumentException";
    private static final String IAS = IA + " IllegalStateException";
    private static final String AS = A + " IllegalStateException";

    private static final String[] METHODS = {
        "int addIssuer(int int int int)" + IAS,
        "int cross(int int)" + IAS,
        "int distrust(int int)" + IA,
        "int pin(int int)" + IA,
        "void setSeed(int)",
        "int issue(int int int)" + IAS,
        "int pass(int)" + AS,
        "int today()",
        "int issuers()",
        "int certificates()",
        "int issuerOf(int)" + I,
        "int lastDay(int)" + I,
        "int dueOn(int)" + I,
        "int renewal(int)" + I,
        "int waiting()",
        "int waitingAt(int)" + I,
        "int room(int)" + I,
        "boolean isGood(int int)" + IA,
        "int chainEnd(int)" + I,
        "int chains(int)" + I,
        "boolean isCovered(int int)" + IA,
        "int nextGap(int int)" + IA,
        "int covered(int)" + A,
        "int breaks(int int)" + IA,
        "int weakest(int)" + A,
    };

    public static void main(String[] args) throws IOException {
        Check.same("the class", CertHerd.class.getModifiers(), Modifier.PUBLIC | Modifier.FINAL);
        Check.same("NONE", CertHerd.NONE, -1);
        Check.same("methods", seenMethods(), new TreeSet<>(Set.of(METHODS)));
        Check.same("fields", seenFields(), Set.of("public static final NONE"));
        Constructor<?>[] constructors = CertHerd.class.getDeclaredConstructors();
        Check.same("constructors", constructors.length, 1);
        Check.same("constructor", constructors[0].toString(), "public CertHerd()");
        insides();
        if (Document.isThere()) {
            String program = Files.readString(PROGRAM).replaceAll("\\s+", " ");
            printedFace(program);
            promisedCalls();
            groups(program);
        }
        Check.end();
    }

    /** LANGUAGE.md's rule 1, on what can't be seen from outside. */
    private static void insides() {
        for (Class<?> inside : CertHerd.class.getDeclaredClasses()) {
            int modifiers = inside.getModifiers();
            boolean seen = Modifier.isPublic(modifiers) || Modifier.isProtected(modifiers);
            Check.same("static " + inside, Modifier.isStatic(modifiers), true);
            Check.same("seen from outside " + inside, seen, false);
        }
        Set<String> open = new TreeSet<>();
        Set<String> hidden = new TreeSet<>();
        for (Method method : CertHerd.class.getDeclaredMethods()) {
            (Modifier.isPrivate(method.getModifiers()) ? hidden : open).add(method.getName());
        }
        hidden.retainAll(open);
        Check.same("private methods that bear the name of a public one", hidden, Set.of());
    }

    /** Each line of the printed face stands in the program with its parameters' names, in the same order. */
    private static void printedFace(String program) {
        int from = 0;
        for (String line : faceLines()) {
            String begin = line.endsWith(");") || line.endsWith("Exception;") ? line.replace(";", " {") : line;
            int at = program.indexOf(begin, from);
            Check.same("in its place in the program: " + line, at >= from, true);
            from = Math.max(at, from);
        }
    }

    private static void promisedCalls() {
        List<String> promised = new ArrayList<>();
        for (int promise = 1; promise <= 26; promise++) {
            for (String line : Document.linesOf("Promise " + promise)) {
                Matcher matcher = PROMISE.matcher(line);
                if (matcher.matches()) {
                    promised.add("public " + matcher.group(1) + ";");
                }
            }
        }
        List<String> printed = faceLines();
        Check.same("each call of the face has its promise", promised, printed.subList(2, printed.size()));
    }

    /** What the document's interface says ahead of some calls stands ahead of these in the program. */
    private static void groups(String program) {
        int groups = 0;
        for (String line : Document.linesOf("Terms")) {
            Matcher matcher = GROUP.matcher(line);
            if (matcher.matches()) {
                groups++;
                String title = "// " + matcher.group(2) + " public ";
                int at = program.indexOf(title);
                Check.same("in the program: " + title, at >= 0, true);
                int end = program.indexOf("// ----", at + title.length());
                String part = program.substring(Math.max(at, 0), end < 0 ? program.length() : end);
                Check.same(title + " stands ahead of", publicCalls(part), matcher.group(1).replace("`", ""));
            }
        }
        Check.same("groups of calls", groups, 4);
    }

    private static String publicCalls(String part) {
        List<String> calls = new ArrayList<>();
        Matcher matcher = PUBLIC_CALL.matcher(part);
        while (matcher.find()) {
            calls.add(matcher.group(1));
        }
        return String.join(", ", calls);
    }

    private static List<String> faceLines() {
        List<String> lines = new ArrayList<>();
        for (String line : Document.linesOf(Document.FACE)) {
            if (!line.startsWith("```") && !line.equals("}")) {
                lines.add(line.strip());
            }
        }
        return lines;
    }

    private static Set<String> seenMethods() {
        Set<String> seen = new TreeSet<>();
        for (Method method : CertHerd.class.getDeclaredMethods()) {
            if (!Modifier.isPrivate(method.getModifiers())) {
                seen.add(method.getReturnType() + " " + method.getName()
                        + "(" + names(method.getParameterTypes()) + ")"
                        + (method.getExceptionTypes().length == 0 ? "" : " throws ")
                        + names(method.getExceptionTypes()));
            }
        }
        return seen;
    }

    private static Set<String> seenFields() {
        Set<String> seen = new TreeSet<>();
        for (Field field : CertHerd.class.getDeclaredFields()) {
            if (!Modifier.isPrivate(field.getModifiers())) {
                seen.add(Modifier.toString(field.getModifiers()) + " " + field.getName());
            }
        }
        return seen;
    }

    private static String names(Class<?>[] types) {
        StringBuilder text = new StringBuilder();
        for (Class<?> type : types) {
            text.append(text.length() == 0 ? "" : " ").append(type.getSimpleName());
        }
        return text.toString();
    }
}
