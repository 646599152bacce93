import java.util.List;
import java.util.function.Consumer;
import java.util.function.Function;
import java.util.function.Supplier;

/**
 * A call that throws. For each way to look at an object, one that was asked for the call is held against one
 * that was not: what it shows now, and, as the seed shows in later draws alone, what comes then. Each look has
 * objects of its own, so that none is used for more than 512 calls.
 */
final class Refused {
    private static final List<Function<CertHerd, String>> LOOKS =
            List.of(Look::atIssuers, Look::atCertificates, Look::atCover, Look::atFuture);

    private Refused() {
    }

    static void in(Supplier<CertHerd> state, String what, Class<? extends RuntimeException> kind,
            Consumer<CertHerd> call) {
        for (Function<CertHerd, String> look : LOOKS) {
            CertHerd asked = state.get();
            Check.fails(what, kind, () -> call.accept(asked));
            Check.same(what + " leaves", look.apply(asked), look.apply(state.get()));
        }
    }

    static void inAll(String what, Class<? extends RuntimeException> kind, Consumer<CertHerd> call) {
        for (int i = 0; i < States.ALL.size(); i++) {
            in(States.ALL.get(i), what + " (state " + i + ")", kind, call);
        }
    }
}
