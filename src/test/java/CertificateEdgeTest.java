/** Promises 7 to 18: for each sentence a test at the edges that it names. */
public final class CertificateEdgeTest {
    private static final int NONE = CertHerd.NONE;
    private static final int MIN = Integer.MIN_VALUE;
    private static final int MAX = Integer.MAX_VALUE;
    private static final int[] WRONG_NUMBERS = {-1, 60, 61, MIN, MAX};

    public static void main(String[] args) {
        Sentence.test(
                CertificateEdgeTest::issue, CertificateEdgeTest::issueIssuer, CertificateEdgeTest::issueSubject,
                CertificateEdgeTest::issueLength, CertificateEdgeTest::issueNumber,
                CertificateEdgeTest::issueNoSuchIssuer, CertificateEdgeTest::issueOutOfRange,
                CertificateEdgeTest::issueCannot, CertificateEdgeTest::pass, CertificateEdgeTest::passDays,
                CertificateEdgeTest::passCount, CertificateEdgeTest::passOutOfRange,
                CertificateEdgeTest::passTooLate, CertificateEdgeTest::today, CertificateEdgeTest::issuers,
                CertificateEdgeTest::certificates, CertificateEdgeTest::issuerOf,
                CertificateEdgeTest::issuerOfNumber, CertificateEdgeTest::issuerOfNoSuch,
                CertificateEdgeTest::lastDay, CertificateEdgeTest::lastDayNumber,
                CertificateEdgeTest::lastDayNoSuch, CertificateEdgeTest::dueOn,
                CertificateEdgeTest::dueOnNumber, CertificateEdgeTest::dueOnNoSuch,
                CertificateEdgeTest::renewal, CertificateEdgeTest::renewalNumber,
                CertificateEdgeTest::renewalNoSuch, CertificateEdgeTest::renewalOrNone,
                CertificateEdgeTest::waiting, CertificateEdgeTest::waitingAt,
                CertificateEdgeTest::waitingAtPlace, CertificateEdgeTest::waitingAtNoSuch,
                CertificateEdgeTest::room, CertificateEdgeTest::roomIssuer,
                CertificateEdgeTest::roomNoSuchIssuer);
        Sentence.end("Promise 7", "Promise 8", "Promise 9", "Promise 10", "Promise 11", "Promise 12",
                "Promise 13", "Promise 14", "Promise 15", "Promise 16", "Promise 17", "Promise 18");
    }

    private static void issue() {
        Sentence.of(7, "Issues a certificate, from today on.");
        CertHerd herd = States.root(50);
        herd.issue(0, 0, 2);
        Check.same("one more", herd.certificates(), 1);
        Check.same("on the day 0", herd.isCovered(0, 0), true);
        Check.same("until the day 1", herd.lastDay(0), 1);
        herd.distrust(0, 1);
        herd.pass(10);
        herd.distrust(0, NONE);
        herd.issue(0, 5, 2);
        Check.same("not on the day 9", herd.isCovered(5, 9), false);
        Check.same("on the day 10", herd.isCovered(5, 10), true);
        Check.same("until the day 11", herd.lastDay(1), 11);
        CertHerd last = States.onDay(3000);
        last.issue(0, 5, 400);
        Check.same("not on the day 2999", last.isCovered(5, 2999), false);
        Check.same("on the day 3000", last.isCovered(5, 3000), true);
        Check.same("until the day 3399", last.nextGap(5, 3000), 3400);
    }

    private static void issueIssuer() {
        Sentence.of(7, "`issuer`: an issuer");
        CertHerd herd = new CertHerd();
        for (int issuer = 0; issuer < 8; issuer++) {
            herd.addIssuer(issuer - 1, 0, 5000, 1);
        }
        Check.same("the highest", herd.issuerOf(herd.issue(7, 0, 1)), 7);
        Check.same("the lowest", herd.issuerOf(herd.issue(0, 0, 1)), 0);
        Check.same("the limit is its own", herd.room(7) + herd.room(0), 0);
        Check.same("not that of its signers", herd.room(6) + herd.room(1), 2);
        Refused.inAll("the one behind", Check.INDEX, h -> h.issue(h.issuers(), 0, 1));
        Refused.inAll("NONE", Check.INDEX, h -> h.issue(NONE, 0, 1));
    }

    private static void issueSubject() {
        Sentence.of(7, "`subject`: 0 to 19");
        CertHerd herd = States.root(50);
        for (int subject = 0; subject < 20; subject++) {
            Check.same("subject " + subject, herd.issue(0, subject, 1), subject);
        }
        for (int wrong : new int[] {-1, 20, MIN, MAX}) {
            Refused.in(() -> States.root(50), "subject " + wrong, Check.ARGUMENT, h -> h.issue(0, wrong, 1));
        }
    }

    private static void issueLength() {
        Sentence.of(7, "`length`: 1 to 400 days");
        CertHerd herd = States.root(50);
        Check.same("1", herd.lastDay(herd.issue(0, 0, 1)), 0);
        Check.same("400", herd.lastDay(herd.issue(0, 1, 400)), 399);
        Check.same("1 covers one day", herd.nextGap(0, 0), 1);
        Check.same("400 covers 400", herd.nextGap(1, 0), 400);
        for (int wrong : new int[] {0, -1, 401, MIN, MAX}) {
            Refused.in(() -> States.root(50), "length " + wrong, Check.ARGUMENT, h -> h.issue(0, 0, wrong));
        }
    }

    private static void issueNumber() {
        Sentence.of(7, "Returns its number.");
        CertHerd herd = States.root(50);
        Check.same("the first", herd.issue(0, 0, 2), 0);
        Check.fails("one that is refused", Check.ARGUMENT, () -> herd.issue(0, 0, 0));
        Check.same("takes no number", herd.issue(0, 0, 3), 1);
        Check.same("one comes", herd.pass(1), 1);
        Check.same("what came by renewing takes one", herd.issue(0, 0, 4), 3);
        Check.same("the last", States.certificates(59).issue(1, 0, 1), 59);
        Check.same("a number that ended is not used again", States.onDay(3000).issue(0, 0, 1), 1);
    }

    private static void issueNoSuchIssuer() {
        Sentence.of(7, "Throws `IndexOutOfBoundsException` if there is no such issuer");
        for (int wrong : new int[] {-1, 8, MIN, MAX}) {
            Refused.inAll("issuer " + wrong, Check.INDEX, h -> h.issue(wrong, 0, 1));
            Refused.inAll("issuer ahead of subject", Check.INDEX, h -> h.issue(wrong, 20, 1));
            Refused.inAll("issuer ahead of length", Check.INDEX, h -> h.issue(wrong, 0, 0));
        }
        Refused.in(States::busy, "the first that is not there", Check.INDEX, h -> h.issue(4, 0, 1));
    }

    private static void issueOutOfRange() {
        Sentence.of(7, "Throws `IllegalArgumentException` if subject or length is out of range");
        Refused.in(States::busy, "subject", Check.ARGUMENT, h -> h.issue(3, 20, 400));
        Refused.in(States::busy, "length", Check.ARGUMENT, h -> h.issue(3, 19, 401));
        Refused.in(States::busy, "both", Check.ARGUMENT, h -> h.issue(3, -1, 0));
        Refused.in(States::busy, "subject ahead of distrust", Check.ARGUMENT, h -> h.issue(0, -1, 1));
        Refused.in(States::busy, "length ahead of pins", Check.ARGUMENT, h -> h.issue(3, 9, 0));
        Refused.in(() -> States.root(0), "subject ahead of the limit", Check.ARGUMENT, h -> h.issue(0, 20, 1));
        Refused.in(() -> States.root(0), "length ahead of the limit", Check.ARGUMENT, h -> h.issue(0, 0, 401));
        Refused.in(States::sixtyCertificates, "subject ahead of 60", Check.ARGUMENT, h -> h.issue(0, 20, 1));
        Refused.in(States::sixtyCertificates, "length ahead of 60", Check.ARGUMENT, h -> h.issue(0, 0, 0));
        Check.same("both in range", States.busy().issue(3, 19, 400), 6);
    }

    /** A root from the day 5 to the day 9, what it signs, and a distrust; today is 5 to 9, or beside. */
    private static CertHerd shortLived(int today, int distrusted) {
        CertHerd herd = new CertHerd();
        herd.addIssuer(NONE, 5, 9, 2);
        herd.addIssuer(0, 0, 5000, 2);
        herd.distrust(0, distrusted);
        States.passTo(herd, today);
        return herd;
    }

    private static void issueCannot() {
        Sentence.of(7, "Throws `IllegalStateException` if it cannot issue");
        for (int by = 0; by < 2; by++) {
            int issuer = by;
            Refused.in(() -> shortLived(4, NONE), "not good yet", Check.STATE, h -> h.issue(issuer, 0, 1));
            Check.same("the first day", shortLived(5, NONE).issue(issuer, 0, 1), 0);
            Check.same("the last day", shortLived(9, NONE).issue(issuer, 0, 1), 0);
            Refused.in(() -> shortLived(10, NONE), "no longer good", Check.STATE, h -> h.issue(issuer, 0, 1));
            Check.same("ahead of distrust", shortLived(7, 8).issue(issuer, 0, 1), 0);
            Refused.in(() -> shortLived(8, 8), "distrusted", Check.STATE, h -> h.issue(issuer, 0, 1));
        }
        Check.same("good today is enough", shortLived(9, NONE).issue(1, 0, 400), 0);
        Check.same("the last day of its week", limited(3, 1).issue(0, 0, 1), 2);
        Refused.in(() -> limited(2, 1), "the limit of its week", Check.STATE, h -> h.issue(0, 0, 1));
        Refused.in(() -> States.root(0), "the limit 0", Check.STATE, h -> h.issue(0, 0, 1));
        Refused.in(States::busy, "a name's pins", Check.STATE, h -> h.issue(3, 9, 1));
        Refused.in(States::busy, "a zone's name's pins", Check.STATE, h -> h.issue(3, 18, 1));
        Check.same("a pinned one", States.busy().issue(3, 5, 1), 6);
        Check.same("a pinned one's zone", States.busy().issue(3, 17, 1), 6);
        Refused.in(States::sixtyCertificates, "there are 60", Check.STATE, h -> h.issue(1, 0, 1));
        Check.same("there are 59", States.certificates(59).issue(0, 0, 1), 59);
    }

    /** A root with a limit that has issued once, and what came by renewing some days later counts, too. */
    private static CertHerd limited(int limit, int days) {
        CertHerd herd = States.root(limit);
        herd.issue(0, 0, 2);
        herd.pass(days);
        return herd;
    }

    private static void pass() {
        Sentence.of(8, "Lets days pass.");
        CertHerd herd = States.root(50);
        herd.pass(1);
        Check.same("one", herd.today(), 1);
        herd.pass(100);
        Check.same("a hundred more", herd.today(), 101);
        CertHerd atOnce = States.busy();
        CertHerd oneByOne = States.busy();
        atOnce.distrust(0, NONE);
        oneByOne.distrust(0, NONE);
        int came = 0;
        for (int day = 0; day < 100; day++) {
            came += oneByOne.pass(1);
        }
        Check.same("each day for itself", atOnce.pass(100), came);
        Check.same("to the same end", Look.atCertificates(atOnce), Look.atCertificates(oneByOne));
    }

    private static void passDays() {
        Sentence.of(8, "`days`: 1 to 100");
        CertHerd herd = new CertHerd();
        herd.pass(1);
        Check.same("1", herd.today(), 1);
        herd.pass(100);
        Check.same("100", herd.today(), 101);
        for (int wrong : new int[] {0, -1, 101, MIN, MAX, MIN + 1, MAX - 2999}) {
            Refused.inAll("days " + wrong, Check.ARGUMENT, h -> h.pass(wrong));
        }
    }

    private static void passCount() {
        Sentence.of(8, "Returns how many certificates come by renewing.");
        Check.same("none there", new CertHerd().pass(100), 0);
        CertHerd herd = States.root(50);
        herd.issue(0, 0, 5);
        Check.same("none due", herd.pass(2), 0);
        Check.same("one due", herd.pass(1), 1);
        Check.same("of several days and of what came itself", herd.pass(9), 3);
        CertHerd two = States.root(50);
        two.issue(0, 0, 5);
        two.issue(0, 1, 4);
        Check.same("of two days", two.pass(3), 2);
        CertHerd waits = States.root(1);
        waits.issue(0, 0, 5);
        Check.same("what waits doesn't count", waits.pass(4), 0);
        Check.same("what has ended never comes", waits.pass(96), 0);
        passCountUpTo60();
    }

    private static void passCountUpTo60() {
        CertHerd herd = States.root(50);
        herd.issue(0, 0, 2);
        Check.same("one a day, up to 60 of them", herd.pass(100), 59);
        Check.same("60", herd.certificates(), 60);
        Check.same("the last one", herd.renewal(58), 59);
        Check.same("not renewed", herd.renewal(59), NONE);
        CertHerd full = States.sixtyCertificates();
        Check.same("no place", full.pass(3), 0);
        Check.same("all of them wait", full.waiting(), 60);
        CertHerd almost = States.certificates(58);
        Check.same("two places for 58", almost.pass(3), 2);
        Check.same("for the lowest number", almost.renewal(0), 58);
        Check.same("for the next number", almost.renewal(1), 59);
        Check.same("not for the one behind", almost.renewal(2), NONE);
        Check.same("the others wait", almost.waiting(), 56);
    }

    private static void passOutOfRange() {
        Sentence.of(8, "Throws `IllegalArgumentException` if days is out of range");
        for (int wrong : new int[] {0, 101, -1, MAX}) {
            Refused.in(() -> States.onDay(2999), wrong + " ahead of the day 3000", Check.ARGUMENT, h -> h.pass(wrong));
            Refused.in(() -> States.onDay(3000), wrong + " on the day 3000", Check.ARGUMENT, h -> h.pass(wrong));
        }
    }

    private static void passTooLate() {
        Sentence.of(8, "Throws `IllegalStateException` if today would be later than the day 3000");
        Refused.in(() -> States.onDay(3000), "3000 and 1", Check.STATE, h -> h.pass(1));
        Refused.in(() -> States.onDay(3000), "3000 and 100", Check.STATE, h -> h.pass(100));
        Refused.in(() -> States.onDay(2999), "2999 and 2", Check.STATE, h -> h.pass(2));
        Refused.in(() -> States.onDay(2901), "2901 and 100", Check.STATE, h -> h.pass(100));
        Refused.in(CertificateEdgeTest::dueAtTheEnd, "none is renewed ahead of it", Check.STATE, h -> h.pass(3));
        int[][] rows = {{2999, 1}, {2900, 100}, {2901, 99}, {2998, 2}};
        for (int[] row : rows) {
            CertHerd herd = States.onDay(row[0]);
            herd.pass(row[1]);
            Check.same(row[0] + " and " + row[1], herd.today(), 3000);
        }
        Check.same("renewed on the day 3000", dueAtTheEnd().pass(2), 1);
    }

    private static CertHerd dueAtTheEnd() {
        CertHerd herd = States.onDay(2998);
        herd.issue(0, 7, 3);
        return herd;
    }

    private static void today() {
        Sentence.of(9, "Returns today.");
        CertHerd herd = new CertHerd();
        Check.same("at first", herd.today(), 0);
        herd.pass(1);
        Check.same("a day", herd.today(), 1);
        herd.pass(99);
        Check.same("and more", herd.today(), 100);
        Check.fails("a day that is refused", Check.ARGUMENT, () -> herd.pass(101));
        Check.same("as before", herd.today(), 100);
        States.passTo(herd, 3000);
        Check.same("at last", herd.today(), 3000);
        Check.fails("a day behind it", Check.STATE, () -> herd.pass(1));
        Check.same("still the last", herd.today(), 3000);
    }

    private static void issuers() {
        Sentence.of(10, "Returns how many issuers there are.");
        CertHerd herd = new CertHerd();
        Check.same("none", herd.issuers(), 0);
        herd.addIssuer(NONE, 5, 5, 0);
        Check.same("one, good or not", herd.issuers(), 1);
        herd.distrust(0, 0);
        herd.pass(100);
        Check.same("ended and distrusted", herd.issuers(), 1);
        Check.fails("one that is refused", Check.INDEX, () -> herd.addIssuer(1, 0, 0, 0));
        Check.same("as before", herd.issuers(), 1);
        CertHerd full = States.eightIssuers();
        Check.same("all", full.issuers(), 8);
        Check.fails("a ninth", Check.STATE, () -> full.addIssuer(NONE, 0, 1, 1));
        Check.same("still all", full.issuers(), 8);
    }

    private static void certificates() {
        Sentence.of(11, "Returns how many certificates there are, ended ones included.");
        CertHerd herd = States.root(50);
        Check.same("none", herd.certificates(), 0);
        herd.issue(0, 0, 1);
        Check.same("one", herd.certificates(), 1);
        herd.pass(1);
        Check.same("an ended one", herd.certificates(), 1);
        herd.issue(0, 0, 2);
        herd.pass(1);
        Check.same("one that came by renewing", herd.certificates(), 3);
        herd.distrust(0, 0);
        herd.pass(100);
        Check.same("all ended", herd.certificates(), 3);
        Check.fails("one that is refused", Check.STATE, () -> herd.issue(0, 0, 1));
        Check.same("as before", herd.certificates(), 3);
        CertHerd full = States.sixtyCertificates();
        Check.same("60", full.certificates(), 60);
        full.pass(100);
        Check.same("60 ended ones", full.certificates(), 60);
    }

    private static void issuerOf() {
        Sentence.of(12, "Returns the issuer of a certificate.");
        CertHerd herd = States.root(50);
        herd.addIssuer(0, 0, 5000, 50);
        herd.issue(1, 0, 2);
        herd.issue(0, 0, 2);
        Check.same("signed", herd.issuerOf(0), 1);
        Check.same("root", herd.issuerOf(1), 0);
        herd.pass(1);
        Check.same("by renewing", herd.issuerOf(2) * 10 + herd.issuerOf(3), 10);
        herd.distrust(1, 0);
        herd.pass(9);
        Check.same("ended and distrusted", herd.issuerOf(0), 1);
        CertHerd eight = States.eightIssuers();
        Check.same("the highest issuer", eight.issuerOf(eight.issue(7, 0, 1)), 7);
    }

    private static void issuerOfNumber() {
        Sentence.of(12, "`number`: a certificate");
        Check.same("the first", States.sixtyCertificates().issuerOf(0), 0);
        Check.same("the last", States.sixtyCertificates().issuerOf(59), 1);
    }

    private static void issuerOfNoSuch() {
        Sentence.of(12, "Throws `IndexOutOfBoundsException` if there is no such certificate");
        for (int wrong : WRONG_NUMBERS) {
            Refused.inAll("number " + wrong, Check.INDEX, h -> h.issuerOf(wrong));
        }
        Refused.inAll("the first that is not there", Check.INDEX, h -> h.issuerOf(h.certificates()));
    }

    private static void lastDay() {
        Sentence.of(13, "Returns the last day of a certificate.");
        CertHerd herd = States.root(50);
        Check.same("of 1 day", herd.lastDay(herd.issue(0, 0, 1)), 0);
        Check.same("of 2 days", herd.lastDay(herd.issue(0, 0, 2)), 1);
        Check.same("of 400 days", herd.lastDay(herd.issue(0, 0, 400)), 399);
        herd.pass(1);
        Check.same("by renewing", herd.lastDay(3), 2);
        herd.distrust(0, 0);
        herd.pass(50);
        Check.same("whether the issuer is good or not", herd.lastDay(2), 399);
        Check.same("ended", herd.lastDay(0), 0);
        CertHerd late = States.onDay(3000);
        Check.same("of 400 days from the day 3000", late.lastDay(late.issue(0, 0, 400)), 3399);
        Check.same("of 1 day on the day 3000", late.lastDay(late.issue(0, 0, 1)), 3000);
    }

    private static void lastDayNumber() {
        Sentence.of(13, "`number`: a certificate");
        CertHerd full = States.root(50);
        for (int number = 0; number < 60; number++) {
            full.issue(0, 0, 1);
            full.pass(1);
        }
        Check.same("the first", full.lastDay(0), 0);
        Check.same("the last", full.lastDay(59), 59);
    }

    private static void lastDayNoSuch() {
        Sentence.of(13, "Throws `IndexOutOfBoundsException` if there is no such certificate");
        for (int wrong : WRONG_NUMBERS) {
            Refused.inAll("number " + wrong, Check.INDEX, h -> h.lastDay(wrong));
        }
        Refused.inAll("the first that is not there", Check.INDEX, h -> h.lastDay(h.certificates()));
    }

    private static void dueOn() {
        Sentence.of(14, "Returns the day from which on a certificate is due.");
        CertHerd herd = States.root(50);
        for (int length = 1; length <= 5; length++) {
            int[] due = {0, 1, 2, 2, 3};
            Check.same("of " + length, herd.dueOn(herd.issue(0, 0, length)), due[length - 1]);
        }
        herd.setSeed(Seeds.drawing(0));
        Check.same("of 6, offset 0", herd.dueOn(herd.issue(0, 0, 6)), 4);
        herd.setSeed(Seeds.drawing(1));
        Check.same("of 6, offset 1", herd.dueOn(herd.issue(0, 0, 6)), 5);
        herd.setSeed(Seeds.drawing(66));
        Check.same("of 400, the greatest offset", herd.dueOn(herd.issue(0, 0, 400)), 266 + 66);
        herd.setSeed(5);
        herd.pass(3);
        Check.same("drawn once and kept", herd.dueOn(7), 266 + 66);
        Check.same("renewed or not", herd.dueOn(4), 3);
        Check.same("by renewing, on the day 1", herd.dueOn(8), 2);
        CertHerd late = States.onDay(3000);
        late.setSeed(Seeds.drawing(0));
        Check.same("from the day 3000", late.dueOn(late.issue(0, 0, 400)), 3266);
    }

    private static void dueOnNumber() {
        Sentence.of(14, "`number`: a certificate");
        Check.same("the first", States.sixtyCertificates().dueOn(0), 3);
        Check.same("the last", States.sixtyCertificates().dueOn(59), 3);
    }

    private static void dueOnNoSuch() {
        Sentence.of(14, "Throws `IndexOutOfBoundsException` if there is no such certificate");
        for (int wrong : WRONG_NUMBERS) {
            Refused.inAll("number " + wrong, Check.INDEX, h -> h.dueOn(wrong));
        }
        Refused.inAll("the first that is not there", Check.INDEX, h -> h.dueOn(h.certificates()));
    }

    private static void renewal() {
        Sentence.of(15, "Returns the certificate that came by renewing another one.");
        CertHerd herd = States.root(50);
        herd.issue(0, 0, 5);
        herd.issue(0, 1, 4);
        herd.pass(3);
        Check.same("what came later", herd.renewal(0), 3);
        Check.same("what came first", herd.renewal(1), 2);
        herd.pass(2);
        Check.same("in its turn", herd.renewal(2), 4);
        herd.distrust(0, 0);
        herd.pass(100);
        Check.same("when all have ended", herd.renewal(0), 3);
    }

    private static void renewalNumber() {
        Sentence.of(15, "`number`: a certificate");
        CertHerd full = States.root(50);
        full.issue(0, 0, 2);
        full.pass(100);
        Check.same("the first", full.renewal(0), 1);
        Check.same("the last but one", full.renewal(58), 59);
        Check.same("the last", full.renewal(59), NONE);
    }

    private static void renewalNoSuch() {
        Sentence.of(15, "Throws `IndexOutOfBoundsException` if there is no such certificate");
        for (int wrong : WRONG_NUMBERS) {
            Refused.inAll("number " + wrong, Check.INDEX, h -> h.renewal(wrong));
        }
        Refused.inAll("the first that is not there", Check.INDEX, h -> h.renewal(h.certificates()));
    }

    private static void renewalOrNone() {
        Sentence.of(15, "Returns the certificate that came; NONE if it was not renewed.");
        CertHerd herd = States.root(2);
        herd.issue(0, 0, 5);
        Check.same("not due", herd.renewal(0), NONE);
        herd.pass(3);
        Check.same("renewed", herd.renewal(0), 1);
        Check.same("what came is not", herd.renewal(1), NONE);
        herd.pass(3);
        Check.same("it waits for the limit", herd.renewal(1), NONE);
        herd.pass(1);
        Check.same("renewed in the next week", herd.renewal(1), 2);
        CertHerd ended = States.root(1);
        ended.issue(0, 0, 5);
        ended.pass(100);
        Check.same("ended without", ended.renewal(0), NONE);
    }

    /** A root that is distrusted from the day 1 on, so that what it has issued on the day 0 waits. */
    private static CertHerd distrusted(int... lengths) {
        CertHerd herd = States.root(50);
        herd.addIssuer(NONE, 0, 5000, 50);
        for (int length : lengths) {
            herd.setSeed(Seeds.drawing(0));
            herd.issue(0, 0, length);
        }
        herd.distrust(0, 1);
        return herd;
    }

    private static void waiting() {
        Sentence.of(16, "Returns how many certificates wait: they are due by today, were not renewed, and have not"
                + " ended.");
        Check.same("of none", new CertHerd().waiting(), 0);
        CertHerd herd = distrusted(9);
        States.passTo(herd, 5);
        Check.same("the day ahead", herd.waiting(), 0);
        herd.pass(1);
        Check.same("due today", herd.waiting(), 1);
        herd.pass(2);
        Check.same("on its last day", herd.waiting(), 1);
        herd.pass(1);
        Check.same("ended yesterday", herd.waiting(), 0);
        CertHerd renewed = States.root(50);
        renewed.issue(0, 0, 9);
        renewed.pass(8);
        Check.same("renewed", renewed.waiting(), 0);
        CertHerd shortest = States.root(50);
        shortest.issue(0, 0, 1);
        Check.same("due at once", shortest.waiting(), 1);
        shortest.pass(1);
        Check.same("and ended", shortest.waiting(), 0);
        CertHerd again = distrusted(9);
        again.pass(7);
        again.distrust(0, NONE);
        Check.same("until a day passes", again.waiting(), 1);
        again.pass(1);
        Check.same("then no longer", again.waiting(), 0);
        waitingOfAll();
    }

    private static void waitingOfAll() {
        CertHerd full = States.sixtyCertificates();
        Check.same("not due", full.waiting(), 0);
        full.pass(3);
        Check.same("60 of them", full.waiting(), 60);
        full.pass(1);
        Check.same("60 on their last day", full.waiting(), 60);
        full.pass(1);
        Check.same("60 ended", full.waiting(), 0);
        CertHerd mixed = distrusted(9, 5, 1);
        mixed.issue(1, 0, 9);
        Check.same("one of them", mixed.waiting(), 1);
        mixed.pass(3);
        Check.same("another one of them", mixed.waiting(), 1);
        mixed.pass(3);
        Check.same("the last one of them, but not the renewed one", mixed.waiting(), 1);
    }

    private static void waitingAt() {
        Sentence.of(17, "Returns a certificate that waits.");
        CertHerd herd = distrusted(5, 9, 5);
        herd.pass(3);
        Check.same("the first", herd.waitingAt(0), 0);
        Check.same("past one that is not due", herd.waitingAt(1), 2);
        herd.pass(2);
        Check.same("none between", herd.waiting(), 0);
        herd.pass(1);
        Check.same("another one", herd.waitingAt(0), 1);
        Check.same("asked again", herd.waitingAt(0), 1);
    }

    private static void waitingAtPlace() {
        Sentence.of(17, "`place`: 0 for the first one by rising last days, of several by rising numbers");
        CertHerd herd = distrusted(12, 10, 12, 11, 10);
        herd.pass(8);
        int[] due = {1, 4, 3, 0, 2};
        for (int place = 0; place < 5; place++) {
            Check.same("place " + place, herd.waitingAt(place), due[place]);
        }
        herd.pass(2);
        Check.same("two have ended", herd.waitingAt(0), 3);
        Check.same("the last place", herd.waitingAt(2), 2);
        CertHerd full = States.sixtyCertificates();
        full.pass(3);
        for (int place = 0; place < 60; place++) {
            Check.same("by rising numbers, place " + place, full.waitingAt(place), place);
        }
        CertHerd dueLater = distrusted(30);
        dueLater.pass(5);
        dueLater.setSeed(Seeds.drawing(3));
        dueLater.issue(1, 0, 20);
        dueLater.distrust(1, 6);
        dueLater.pass(16);
        Check.same("one is due on the day 20", dueLater.dueOn(0), 20);
        Check.same("one is due on the day 21 and ends first", dueLater.dueOn(1), 5 + 13 + 3);
        Check.same("the last day counts", dueLater.waitingAt(0), 1);
        Check.same("the day of being due doesn't", dueLater.waitingAt(1), 0);
        CertHerd later = distrusted(30);
        later.pass(25);
        later.issue(1, 0, 5);
        later.distrust(1, 0);
        later.pass(4);
        Check.same("both end on one day, the lower number", later.waitingAt(0), 0);
        Check.same("both end on one day, the higher number", later.waitingAt(1), 1);
    }

    private static CertHerd twoWait() {
        CertHerd herd = distrusted(9, 8);
        herd.pass(7);
        return herd;
    }

    private static void waitingAtNoSuch() {
        Sentence.of(17, "Throws `IndexOutOfBoundsException` if there are not so many, or place is below 0");
        Check.same("the last of two", twoWait().waitingAt(1), 0);
        Refused.in(CertificateEdgeTest::twoWait, "a third of two", Check.INDEX, h -> h.waitingAt(2));
        Refused.in(CertHerd::new, "a first of none", Check.INDEX, h -> h.waitingAt(0));
        Refused.in(() -> States.root(5), "a first of none, with an issuer", Check.INDEX, h -> h.waitingAt(0));
        Refused.in(States::sixtyCertificates, "there, but not due", Check.INDEX, h -> h.waitingAt(0));
        for (int wrong : new int[] {-1, 60, MIN, MAX}) {
            Refused.inAll("place " + wrong, Check.INDEX, h -> h.waitingAt(wrong));
            Refused.in(CertificateEdgeTest::twoWait, "place " + wrong, Check.INDEX, h -> h.waitingAt(wrong));
        }
    }

    private static void room() {
        Sentence.of(18, "Returns how many certificates an issuer can still issue in the week of today,"
                + " by its limit alone.");
        CertHerd herd = States.root(3);
        Check.same("the limit", herd.room(0), 3);
        herd.issue(0, 0, 2);
        Check.same("issued", herd.room(0), 2);
        herd.pass(1);
        Check.same("renewed", herd.room(0), 1);
        herd.pass(5);
        Check.same("none left on the week's last day", herd.room(0), 0);
        Check.fails("and none can be issued", Check.STATE, () -> herd.issue(0, 0, 1));
        herd.pass(1);
        Check.same("the next week's first day", herd.room(0), 3);
        Check.same("of 0", States.root(0).room(0), 0);
        CertHerd most = States.root(50);
        Check.same("of 50", most.room(0), 50);
        for (int i = 49; i >= 0; i--) {
            most.issue(0, 0, 1);
            Check.same("issued", most.room(0), i);
        }
        CertHerd late = States.onDay(3000);
        Check.same("on the day 3000", late.room(0), 50);
        roomByTheLimitAlone();
    }

    private static void roomIssuer() {
        Sentence.of(18, "`issuer`: an issuer");
        CertHerd eight = States.eightIssuers();
        Check.same("the lowest", eight.room(0), 2);
        Check.same("the highest", eight.room(7), 7);
        eight.issue(7, 0, 1);
        Check.same("what the highest has issued", eight.room(7), 6);
        Check.same("is not of those that have signed it", eight.room(6) + eight.room(0), 8);
    }

    private static void roomNoSuchIssuer() {
        Sentence.of(18, "Throws `IndexOutOfBoundsException` if there is no such issuer");
        for (int wrong : new int[] {-1, 8, MIN, MAX}) {
            Refused.inAll("issuer " + wrong, Check.INDEX, h -> h.room(wrong));
        }
        Refused.inAll("the first that is not there", Check.INDEX, h -> h.room(h.issuers()));
    }

    private static void roomByTheLimitAlone() {
        CertHerd never = new CertHerd();
        never.addIssuer(NONE, 5000, 5000, 9);
        Check.same("not good", never.room(0), 9);
        CertHerd distrusted = States.root(9);
        distrusted.distrust(0, 0);
        Check.same("distrusted", distrusted.room(0), 9);
        CertHerd pinned = States.root(9);
        for (int name = 0; name < 16; name++) {
            pinned.pin(name, 2);
        }
        Check.same("pinned nowhere", pinned.room(0), 9);
        Check.same("60 of them", States.sixtyCertificates().room(1), 20);
        Check.same("59 of them", States.certificates(59).room(1), 21);
    }
}
