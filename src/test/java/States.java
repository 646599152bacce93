import java.util.List;
import java.util.function.Supplier;

/** Objects to begin a test with, each made anew by every call. */
final class States {
    static final int NONE = CertHerd.NONE;

    /** From the empty object to ones in which no issuer, no certificate, or no day has a place any more. */
    static final List<Supplier<CertHerd>> ALL = List.of(
            CertHerd::new, () -> root(50), States::busy, States::eightIssuers,
            States::sixtyCertificates, () -> onDay(3000));

    private States() {
    }

    /** A root that is good on all days, with a limit. */
    static CertHerd root(int limit) {
        CertHerd herd = new CertHerd();
        herd.addIssuer(NONE, 0, 5000, limit);
        return herd;
    }

    /**
     * Two roots, 2 is signed by one and 3 by two of the others; there are pins, and six certificates, two of
     * which wait, as the root 0 is distrusted.
     */
    static CertHerd busy() {
        CertHerd herd = new CertHerd();
        herd.addIssuer(NONE, 0, 5000, 3);
        herd.addIssuer(NONE, 2, 900, 50);
        herd.addIssuer(0, 0, 400, 10);
        herd.addIssuer(2, 0, 300, 5);
        herd.cross(3, 1);
        herd.distrust(1, 200);
        herd.pin(5, 13);
        herd.pin(9, 2);
        herd.setSeed(99);
        herd.issue(0, 3, 9);
        herd.issue(0, 17, 12);
        herd.issue(2, 0, 20);
        herd.issue(3, 10, 400);
        herd.pass(8);
        herd.distrust(0, 9);
        herd.pass(5);
        return herd;
    }

    /** No place for another issuer; the last one is signed by two. */
    static CertHerd eightIssuers() {
        CertHerd herd = busy();
        for (int issuer = 4; issuer < 8; issuer++) {
            herd.addIssuer(issuer - 1, 0, 500 - issuer, issuer);
        }
        herd.cross(7, 0);
        return herd;
    }

    /** No place for another certificate: thirty of each of two roots, with room for twenty more of each. */
    static CertHerd sixtyCertificates() {
        return certificates(60);
    }

    static CertHerd certificates(int count) {
        CertHerd herd = root(50);
        herd.addIssuer(NONE, 0, 5000, 50);
        for (int i = 0; i < count; i++) {
            herd.issue(i % 2, i % 20, 5);
        }
        return herd;
    }

    /** A root with one certificate, on a day up to 3000. */
    static CertHerd onDay(int day) {
        CertHerd herd = root(50);
        herd.distrust(0, 1);
        herd.issue(0, 0, 400);
        passTo(herd, day);
        herd.distrust(0, NONE);
        return herd;
    }

    static void passTo(CertHerd herd, int day) {
        while (herd.today() < day) {
            herd.pass(Math.min(100, day - herd.today()));
        }
    }
}
