import java.lang.reflect.Constructor;
import java.lang.reflect.Field;
import java.lang.reflect.Method;
import java.lang.reflect.Modifier;
import java.util.Set;
import java.util.TreeSet;

/** The class has the face that the document prints, and nothing else that can be seen from outside. */
public final class FaceTest {
    private static final String I = " throws IndexOutOfBoundsException";
    private static final String A = " throws IllegalArgumentException";
    private static final String IA = I + " IllegalArgumentException";
    private static final String IAS = IA + " IllegalStateException";
    private static final String AS = A + " IllegalStateException";

    private static final String[] METHODS = {
        "int addIssuer(int int int int)" + IAS,
        "int cross(int int)" + IAS,
        "int distrust(int int)" + IA,
        "int pin(int int)" + IA,
        "void setSeed(int)",
        "int issue(int int int)" + IAS,
        "int pass(int)" + AS,
        "int today()",
        "int issuers()",
        "int certificates()",
        "int issuerOf(int)" + I,
        "int lastDay(int)" + I,
        "int dueOn(int)" + I,
        "int renewal(int)" + I,
        "int waiting()",
        "int waitingAt(int)" + I,
        "int room(int)" + I,
        "boolean isGood(int int)" + IA,
        "int chainEnd(int)" + I,
        "int chains(int)" + I,
        "boolean isCovered(int int)" + IA,
        "int nextGap(int int)" + IA,
        "int covered(int)" + A,
        "int breaks(int int)" + IA,
        "int weakest(int)" + A,
    };

    public static void main(String[] args) {
        Check.same("the class", CertHerd.class.getModifiers(), Modifier.PUBLIC | Modifier.FINAL);
        Check.same("NONE", CertHerd.NONE, -1);
        Check.same("methods", seenMethods(), new TreeSet<>(Set.of(METHODS)));
        Check.same("fields", seenFields(), Set.of("public static final NONE"));
        Constructor<?>[] constructors = CertHerd.class.getDeclaredConstructors();
        Check.same("constructors", constructors.length, 1);
        Check.same("constructor", constructors[0].toString(), "public CertHerd()");
        Check.end();
    }

    private static Set<String> seenMethods() {
        Set<String> seen = new TreeSet<>();
        for (Method method : CertHerd.class.getDeclaredMethods()) {
            if (!Modifier.isPrivate(method.getModifiers())) {
                seen.add(method.getReturnType() + " " + method.getName()
                        + "(" + names(method.getParameterTypes()) + ")"
                        + (method.getExceptionTypes().length == 0 ? "" : " throws ")
                        + names(method.getExceptionTypes()));
            }
        }
        return seen;
    }

    private static Set<String> seenFields() {
        Set<String> seen = new TreeSet<>();
        for (Field field : CertHerd.class.getDeclaredFields()) {
            if (!Modifier.isPrivate(field.getModifiers())) {
                seen.add(Modifier.toString(field.getModifiers()) + " " + field.getName());
            }
        }
        return seen;
    }

    private static String names(Class<?>[] types) {
        StringBuilder text = new StringBuilder();
        for (Class<?> type : types) {
            text.append(text.length() == 0 ? "" : " ").append(type.getSimpleName());
        }
        return text.toString();
    }
}
