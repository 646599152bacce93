import java.util.Objects;

/** Counts the answers that are not as due, and tells each of them. */
final class Check {
    static final Class<? extends RuntimeException> INDEX = IndexOutOfBoundsException.class;
    static final Class<? extends RuntimeException> ARGUMENT = IllegalArgumentException.class;
    static final Class<? extends RuntimeException> STATE = IllegalStateException.class;

    private static int wrong = 0;
    private static String subject = "";

    private Check() {
    }

    /** What the answers from now on are about; it is told ahead of each that is wrong. */
    static void about(String what) {
        subject = what + " | ";
    }

    static void same(String what, Object got, Object want) {
        if (!Objects.equals(got, want)) {
            wrong++;
            System.out.println(subject + what + " answered " + got + ", due is " + want);
        }
    }

    /** The call throws just this exception; that it changes nothing is looked at by Refused. */
    static void fails(String what, Class<? extends RuntimeException> kind, Runnable call) {
        Object thrown = "nothing";
        try {
            call.run();
        } catch (RuntimeException e) {
            thrown = e.getClass();
        }
        same(what + " throws", thrown, kind);
    }

    static void end() {
        if (wrong != 0) {
            System.out.println(wrong + " answers are not as due");
            System.exit(1);
        }
    }
}
