/** Promises 19 to 26: for each sentence a test at the edges that it names. */
public final class CoverEdgeTest {
    private static final int NONE = CertHerd.NONE;
    private static final int MIN = Integer.MIN_VALUE;
    private static final int MAX = Integer.MAX_VALUE;
    private static final int[] WRONG_ISSUERS = {-1, 8, MIN, MAX};
    private static final int[] WRONG_NAMES = {-1, 16, MIN, MAX};
    private static final int[] WRONG_DAYS = {-1, 5001, MIN, MAX};

    public static void main(String[] args) {
        Sentence.test(
                CoverEdgeTest::isGood, CoverEdgeTest::isGoodIssuer, CoverEdgeTest::isGoodDay,
                CoverEdgeTest::isGoodNoSuchIssuer, CoverEdgeTest::isGoodOutOfRange, CoverEdgeTest::chainEnd,
                CoverEdgeTest::chainEndIssuer, CoverEdgeTest::chainEndNoSuchIssuer, CoverEdgeTest::chainEndDay,
                CoverEdgeTest::chains, CoverEdgeTest::chainsIssuer, CoverEdgeTest::chainsNoSuchIssuer,
                CoverEdgeTest::isCovered, CoverEdgeTest::isCoveredName, CoverEdgeTest::isCoveredDay,
                CoverEdgeTest::isCoveredNoSuchName, CoverEdgeTest::isCoveredOutOfRange, CoverEdgeTest::nextGap,
                CoverEdgeTest::nextGapName, CoverEdgeTest::nextGapDay, CoverEdgeTest::nextGapOrNone,
                CoverEdgeTest::nextGapNoSuchName, CoverEdgeTest::nextGapOutOfRange, CoverEdgeTest::covered,
                CoverEdgeTest::coveredDay, CoverEdgeTest::coveredSet, CoverEdgeTest::coveredOutOfRange,
                CoverEdgeTest::breaks, CoverEdgeTest::breaksIssuer, CoverEdgeTest::breaksDay,
                CoverEdgeTest::breaksSet, CoverEdgeTest::breaksNoSuchIssuer, CoverEdgeTest::breaksOutOfRange,
                CoverEdgeTest::weakest, CoverEdgeTest::weakestDay, CoverEdgeTest::weakestOrNone,
                CoverEdgeTest::weakestOutOfRange);
        Sentence.end("Promise 19", "Promise 20", "Promise 21", "Promise 22", "Promise 23", "Promise 24",
                "Promise 25", "Promise 26");
    }

    /** Eight issuers, each signed by the one below; all are good on all days. */
    private static CertHerd lineOf8() {
        CertHerd herd = new CertHerd();
        for (int issuer = 0; issuer < 8; issuer++) {
            herd.addIssuer(issuer - 1, 0, 5000, 50);
        }
        return herd;
    }

    private static CertHerd roots(int count) {
        CertHerd herd = new CertHerd();
        for (int issuer = 0; issuer < count; issuer++) {
            herd.addIssuer(NONE, 0, 5000, 50);
        }
        return herd;
    }

    private static void isGood() {
        Sentence.of(19, "Tells whether an issuer is good on a day.");
        CertHerd herd = new CertHerd();
        herd.addIssuer(NONE, 10, 20, 5);
        herd.addIssuer(0, 15, 5000, 5);
        Check.same("ahead of the root's first day", herd.isGood(0, 9), false);
        Check.same("on the root's first day", herd.isGood(0, 10), true);
        Check.same("ahead of its own first day", herd.isGood(1, 14), false);
        Check.same("on its own first day", herd.isGood(1, 15), true);
        Check.same("on the root's last day", herd.isGood(1, 20), true);
        Check.same("behind the root's last day", herd.isGood(1, 21), false);
        herd.distrust(1, 18);
        Check.same("ahead of its distrust", herd.isGood(1, 17), true);
        Check.same("from its distrust on", herd.isGood(1, 18), false);
        Check.same("the root is not distrusted by that", herd.isGood(0, 18), true);
        herd.pass(100);
        Check.same("a day that is over", herd.isGood(1, 17), true);
    }

    private static void isGoodIssuer() {
        Sentence.of(19, "`issuer`: an issuer");
        CertHerd herd = lineOf8();
        herd.distrust(7, 5);
        Check.same("the highest", herd.isGood(7, 5), false);
        Check.same("the one below", herd.isGood(6, 5), true);
        herd.distrust(0, 4);
        Check.same("the lowest", herd.isGood(0, 4), false);
        Check.same("all above it", herd.isGood(6, 4), false);
        Refused.inAll("the one behind", Check.INDEX, h -> h.isGood(h.issuers(), 0));
    }

    private static void isGoodDay() {
        Sentence.of(19, "`day`: 0 to 5000");
        CertHerd herd = States.root(5);
        Check.same("0", herd.isGood(0, 0), true);
        Check.same("5000", herd.isGood(0, 5000), true);
        herd.addIssuer(NONE, 1, 4999, 5);
        Check.same("0, not good", herd.isGood(1, 0), false);
        Check.same("5000, not good", herd.isGood(1, 5000), false);
        Refused.in(States::busy, "-1", Check.ARGUMENT, h -> h.isGood(0, -1));
        Refused.in(States::busy, "5001", Check.ARGUMENT, h -> h.isGood(0, 5001));
    }

    private static void isGoodNoSuchIssuer() {
        Sentence.of(19, "Throws `IndexOutOfBoundsException` if there is no such issuer");
        for (int wrong : WRONG_ISSUERS) {
            Refused.inAll("issuer " + wrong, Check.INDEX, h -> h.isGood(wrong, 0));
            Refused.inAll("issuer ahead of day " + wrong, Check.INDEX, h -> h.isGood(wrong, 5001));
        }
    }

    private static void isGoodOutOfRange() {
        Sentence.of(19, "Throws `IllegalArgumentException` if day is out of range");
        for (int wrong : WRONG_DAYS) {
            Refused.in(States::busy, "day " + wrong, Check.ARGUMENT, h -> h.isGood(3, wrong));
        }
    }

    private static void chainEnd() {
        Sentence.of(20, "Returns until which day the longest-lived chain of an issuer lasts.");
        CertHerd herd = new CertHerd();
        herd.addIssuer(NONE, 0, 100, 5);
        herd.addIssuer(NONE, 0, 300, 5);
        herd.addIssuer(0, 0, 400, 5);
        herd.addIssuer(1, 0, 200, 5);
        herd.addIssuer(2, 0, 5000, 5);
        Check.same("a root's own day", herd.chainEnd(1), 300);
        Check.same("the root's end is least", herd.chainEnd(2), 100);
        Check.same("its own end is least", herd.chainEnd(3), 200);
        Check.same("two below", herd.chainEnd(4), 100);
        herd.cross(4, 3);
        Check.same("the second is the longer one", herd.chainEnd(4), 200);
        herd.addIssuer(3, 0, 5000, 5);
        herd.cross(5, 2);
        Check.same("the first is the longer one", herd.chainEnd(5), 200);
        herd.cross(2, 1);
        Check.same("both last longer by what was crossed below", herd.chainEnd(4), 300);
        Check.same("in the other order, too", herd.chainEnd(5), 300);
    }

    private static void chainEndIssuer() {
        Sentence.of(20, "`issuer`: an issuer");
        CertHerd line = lineOf8();
        Check.same("the lowest", line.chainEnd(0), 5000);
        Check.same("the highest", line.chainEnd(7), 5000);
        Check.same("the highest of others", States.eightIssuers().chainEnd(7), 493);
    }

    private static void chainEndNoSuchIssuer() {
        Sentence.of(20, "Throws `IndexOutOfBoundsException` if there is no such issuer");
        for (int wrong : WRONG_ISSUERS) {
            Refused.inAll("issuer " + wrong, Check.INDEX, h -> h.chainEnd(wrong));
        }
        Refused.inAll("the first that is not there", Check.INDEX, h -> h.chainEnd(h.issuers()));
    }

    private static void chainEndDay() {
        Sentence.of(20, "Returns the day, whatever the first days are and whoever is distrusted.");
        CertHerd herd = new CertHerd();
        herd.addIssuer(NONE, 0, 0, 5);
        herd.addIssuer(NONE, 5000, 5000, 5);
        Check.same("the first day there is", herd.chainEnd(0), 0);
        Check.same("the last day there is", herd.chainEnd(1), 5000);
        herd.addIssuer(0, 5000, 5000, 5);
        Check.same("a chain that never holds", herd.chainEnd(2), 0);
        herd.cross(2, 1);
        Check.same("the longer one, from its last day on", herd.chainEnd(2), 5000);
        herd.distrust(1, 0);
        Check.same("a signer is distrusted", herd.chainEnd(2), 5000);
        herd.distrust(2, 0);
        Check.same("it is distrusted itself", herd.chainEnd(2), 5000);
        herd.pass(100);
        Check.same("the end is over", herd.chainEnd(0), 0);
    }

    private static void chains() {
        Sentence.of(21, "Returns how many chains an issuer has.");
        CertHerd herd = lineOf8();
        Check.same("a root", herd.chains(0), 1);
        Check.same("signed by one", herd.chains(1), 1);
        herd.cross(2, 0);
        Check.same("signed by two", herd.chains(2), 2);
        Check.same("and above", herd.chains(7), 2);
        for (int issuer = 3; issuer < 8; issuer++) {
            herd.cross(issuer, issuer - 2);
        }
        Check.same("three", herd.chains(3), 3);
        Check.same("as many as there can be", herd.chains(7), 21);
        herd.distrust(0, 0);
        Check.same("whether they hold or not", herd.chains(7), 21);
        CertHerd twoRoots = roots(2);
        twoRoots.addIssuer(0, 0, 5000, 5);
        twoRoots.cross(2, 1);
        Check.same("to two roots", twoRoots.chains(2), 2);
        CertHerd fromAbove = lineOf8();
        fromAbove.cross(7, 0);
        fromAbove.cross(6, 0);
        fromAbove.cross(2, 0);
        Check.same("crossed in falling order", fromAbove.chains(7), 4);
    }

    private static void chainsIssuer() {
        Sentence.of(21, "`issuer`: an issuer");
        Check.same("the lowest", States.eightIssuers().chains(0), 1);
        Check.same("the highest", States.eightIssuers().chains(7), 3);
    }

    private static void chainsNoSuchIssuer() {
        Sentence.of(21, "Throws `IndexOutOfBoundsException` if there is no such issuer");
        for (int wrong : WRONG_ISSUERS) {
            Refused.inAll("issuer " + wrong, Check.INDEX, h -> h.chains(wrong));
        }
        Refused.inAll("the first that is not there", Check.INDEX, h -> h.chains(h.issuers()));
    }

    /** On the day 10: the name 3 for five days, the zone of 4 to 7 for three, from a root that ends on the day 13. */
    private static CertHerd covering() {
        CertHerd herd = new CertHerd();
        herd.addIssuer(NONE, 0, 13, 5);
        herd.addIssuer(NONE, 0, 5000, 5);
        herd.pass(10);
        herd.issue(0, 3, 5);
        herd.issue(1, 17, 3);
        return herd;
    }

    private static void isCovered() {
        Sentence.of(22, "Tells whether a name is covered on a day.");
        Check.same("nothing there", new CertHerd().isCovered(0, 0), false);
        CertHerd herd = covering();
        Check.same("ahead of the first day", herd.isCovered(4, 9), false);
        Check.same("the first day", herd.isCovered(4, 10), true);
        Check.same("the last day", herd.isCovered(4, 12), true);
        Check.same("behind the last day", herd.isCovered(4, 13), false);
        Check.same("the issuer's last day", herd.isCovered(3, 13), true);
        Check.same("behind the issuer's last day", herd.isCovered(3, 14), false);
        herd.distrust(1, 11);
        Check.same("ahead of distrust", herd.isCovered(4, 10), true);
        Check.same("from distrust on", herd.isCovered(4, 11), false);
        herd.pin(3, 2);
        Check.same("pins don't count for what was issued", herd.isCovered(3, 10), true);
        CertHerd renewed = States.root(50);
        renewed.issue(0, 0, 2);
        renewed.pass(1);
        Check.same("by what came by renewing", renewed.isCovered(0, 2), true);
        Check.same("not by what will come", renewed.isCovered(0, 3), false);
    }

    private static void isCoveredName() {
        Sentence.of(22, "`name`: 0 to 15");
        CertHerd herd = States.root(50);
        herd.issue(0, 0, 1);
        herd.issue(0, 15, 1);
        for (int name = 0; name < 16; name++) {
            Check.same("name " + name, herd.isCovered(name, 0), name == 0 || name == 15);
        }
        Refused.inAll("-1", Check.INDEX, h -> h.isCovered(-1, 0));
        Refused.inAll("16, which is a zone", Check.INDEX, h -> h.isCovered(16, 0));
    }

    private static void isCoveredDay() {
        Sentence.of(22, "`day`: 0 to 5000");
        CertHerd herd = States.root(50);
        herd.issue(0, 0, 1);
        Check.same("0", herd.isCovered(0, 0), true);
        Check.same("0, not covered", herd.isCovered(1, 0), false);
        Check.same("5000", herd.isCovered(0, 5000), false);
        Refused.inAll("-1", Check.ARGUMENT, h -> h.isCovered(0, -1));
        Refused.inAll("5001", Check.ARGUMENT, h -> h.isCovered(0, 5001));
    }

    private static void isCoveredNoSuchName() {
        Sentence.of(22, "Throws `IndexOutOfBoundsException` if there is no such name");
        for (int wrong : WRONG_NAMES) {
            Refused.inAll("name " + wrong, Check.INDEX, h -> h.isCovered(wrong, 0));
            Refused.inAll("name ahead of day " + wrong, Check.INDEX, h -> h.isCovered(wrong, 5001));
        }
    }

    private static void isCoveredOutOfRange() {
        Sentence.of(22, "Throws `IllegalArgumentException` if day is out of range");
        for (int wrong : WRONG_DAYS) {
            Refused.inAll("day " + wrong, Check.ARGUMENT, h -> h.isCovered(15, wrong));
        }
    }

    private static void nextGap() {
        Sentence.of(23, "Returns the first day from some day on, up to 5000, on which a name is not covered.");
        Check.same("nothing there", new CertHerd().nextGap(0, 17), 17);
        CertHerd herd = covering();
        Check.same("ahead of what covers it", herd.nextGap(4, 0), 0);
        Check.same("the day ahead", herd.nextGap(4, 9), 9);
        Check.same("from the first day covered", herd.nextGap(4, 10), 13);
        Check.same("from the last day covered", herd.nextGap(4, 12), 13);
        Check.same("from the gap itself", herd.nextGap(4, 13), 13);
        Check.same("the issuer ends ahead", herd.nextGap(3, 10), 14);
        herd.issue(1, 16, 5);
        Check.same("another one goes on", herd.nextGap(3, 10), 15);
        herd.distrust(1, 12);
        Check.same("a distrust makes none while another covers it", herd.nextGap(3, 10), 14);
        Check.same("a distrust makes one", herd.nextGap(4, 10), 12);
        CertHerd meeting = States.root(50);
        meeting.addIssuer(NONE, 0, 5000, 50);
        meeting.issue(0, 0, 3);
        meeting.distrust(0, 1);
        meeting.pass(3);
        meeting.distrust(0, NONE);
        meeting.issue(1, 0, 2);
        Check.same("no gap where one begins as another has ended", meeting.nextGap(0, 0), 5);
        meeting.distrust(0, 1);
        Check.same("the first of two gaps", meeting.nextGap(0, 0), 1);
        Check.same("past it", meeting.nextGap(0, 3), 5);
    }

    private static void nextGapName() {
        Sentence.of(23, "`name`: 0 to 15");
        CertHerd herd = States.root(50);
        herd.issue(0, 0, 3);
        herd.issue(0, 15, 4);
        Check.same("0", herd.nextGap(0, 0), 3);
        Check.same("15", herd.nextGap(15, 0), 4);
        Check.same("one between", herd.nextGap(14, 0), 0);
        Refused.inAll("-1", Check.INDEX, h -> h.nextGap(-1, 0));
        Refused.inAll("16, which is a zone", Check.INDEX, h -> h.nextGap(16, 0));
    }

    private static void nextGapDay() {
        Sentence.of(23, "`day`: 0 to 5000");
        CertHerd herd = States.root(50);
        herd.issue(0, 0, 400);
        Check.same("0", herd.nextGap(0, 0), 400);
        Check.same("5000", herd.nextGap(0, 5000), 5000);
        Check.same("4999", herd.nextGap(0, 4999), 4999);
        Refused.inAll("-1", Check.ARGUMENT, h -> h.nextGap(0, -1));
        Refused.inAll("5001", Check.ARGUMENT, h -> h.nextGap(0, 5001));
    }

    /** What is issued on the day 3000 ends on 3399: no name can be covered up to 5000, so NONE can't come. */
    private static void nextGapOrNone() {
        Sentence.of(23, "Returns the day; NONE if it is covered on all.");
        CertHerd herd = States.onDay(3000);
        herd.issue(0, 19, 400);
        Check.same("the longest cover there can be", herd.nextGap(15, 3000), 3400);
        Check.same("from its last day", herd.nextGap(15, 3399), 3400);
        Check.same("the last day there is has a gap", herd.nextGap(15, 5000), 5000);
    }

    private static void nextGapNoSuchName() {
        Sentence.of(23, "Throws `IndexOutOfBoundsException` if there is no such name");
        for (int wrong : WRONG_NAMES) {
            Refused.inAll("name " + wrong, Check.INDEX, h -> h.nextGap(wrong, 0));
            Refused.inAll("name ahead of day " + wrong, Check.INDEX, h -> h.nextGap(wrong, 5001));
        }
    }

    private static void nextGapOutOfRange() {
        Sentence.of(23, "Throws `IllegalArgumentException` if day is out of range");
        for (int wrong : WRONG_DAYS) {
            Refused.inAll("day " + wrong, Check.ARGUMENT, h -> h.nextGap(15, wrong));
        }
    }

    private static void covered() {
        Sentence.of(24, "Returns the names that are covered on a day.");
        Check.same("nothing there", new CertHerd().covered(0), 0);
        CertHerd herd = covering();
        Check.same("ahead", herd.covered(9), 0);
        Check.same("both", herd.covered(10), 0x00F8);
        Check.same("both for the last time", herd.covered(12), 0x00F8);
        Check.same("one has ended", herd.covered(13), 0x0008);
        Check.same("the other one's issuer has ended", herd.covered(14), 0);
        herd.distrust(1, 11);
        Check.same("one is distrusted", herd.covered(11), 0x0008);
        herd.issue(0, 4, 5);
        Check.same("by name and by zone, once in the set", herd.covered(10), 0x00F8);
        Check.same("by name alone", herd.covered(11), 0x0018);
    }

    private static void coveredDay() {
        Sentence.of(24, "`day`: 0 to 5000");
        CertHerd herd = States.root(50);
        herd.issue(0, 0, 1);
        Check.same("0", herd.covered(0), 1);
        Check.same("5000", herd.covered(5000), 0);
        Refused.inAll("-1", Check.ARGUMENT, h -> h.covered(-1));
        Refused.inAll("5001", Check.ARGUMENT, h -> h.covered(5001));
    }

    private static void coveredSet() {
        Sentence.of(24, "Returns the set, bit n for the name n.");
        for (int name = 0; name < 16; name++) {
            CertHerd herd = States.root(50);
            herd.issue(0, name, 1);
            Check.same("name " + name, herd.covered(0), 1 << name);
        }
        CertHerd all = States.root(50);
        for (int zone = 16; zone < 20; zone++) {
            all.issue(0, zone, 1);
        }
        Check.same("all", all.covered(0), 65535);
        Check.same("none", all.covered(1), 0);
    }

    private static void coveredOutOfRange() {
        Sentence.of(24, "Throws `IllegalArgumentException` if day is out of range");
        for (int wrong : WRONG_DAYS) {
            Refused.inAll("day " + wrong, Check.ARGUMENT, h -> h.covered(wrong));
        }
    }

    /** Root 0 until the day 20, root 1 from the day 5; 2 is signed by both, 3 is a root; 2 has 0 to 3, 3 has 0, 8. */
    private static CertHerd breaking() {
        CertHerd herd = new CertHerd();
        herd.addIssuer(NONE, 0, 20, 5);
        herd.addIssuer(NONE, 5, 5000, 5);
        herd.addIssuer(0, 0, 5000, 5);
        herd.cross(2, 1);
        herd.addIssuer(NONE, 0, 5000, 5);
        herd.issue(2, 16, 40);
        herd.issue(3, 0, 40);
        herd.issue(3, 8, 40);
        return herd;
    }

    private static void breaks() {
        Sentence.of(25, "Returns the names that are covered on a day, and would not be if an issuer was"
                + " distrusted on it.");
        CertHerd herd = breaking();
        Check.same("its only root, but what another covers", herd.breaks(0, 4), 0x000E);
        Check.same("a root that does not hold it yet", herd.breaks(1, 4), 0);
        Check.same("one of two roots", herd.breaks(0, 5), 0);
        Check.same("the other one of two roots", herd.breaks(1, 20), 0);
        Check.same("the other one alone", herd.breaks(1, 21), 0x000E);
        Check.same("one that has ended", herd.breaks(0, 21), 0);
        Check.same("the one that has issued", herd.breaks(2, 5), 0x000E);
        Check.same("covered by two, and by it alone", herd.breaks(3, 5), 0x0100);
        Check.same("on the last day", herd.breaks(3, 39), 0x0100);
        Check.same("what is not covered can't break", herd.breaks(3, 40), 0);
        herd.distrust(1, 10);
        Check.same("one root is distrusted, so the other is needed", herd.breaks(0, 10), 0x000E);
        Check.same("on the day ahead it is not", herd.breaks(0, 9), 0);
        Check.same("the distrusted one is not missed", herd.breaks(1, 10), 0);
        herd.distrust(2, 12);
        Check.same("now it alone covers the name 0", herd.breaks(3, 12), 0x0101);
        Check.same("asking distrusts none", herd.distrust(3, NONE), NONE);
        Check.same("and leaves days of distrust", herd.distrust(2, 12), 12);
    }

    private static void breaksIssuer() {
        Sentence.of(25, "`issuer`: an issuer");
        CertHerd line = lineOf8();
        line.issue(7, 0, 5);
        line.issue(6, 1, 5);
        line.issue(0, 2, 5);
        Check.same("the lowest", line.breaks(0, 0), 7);
        Check.same("the next", line.breaks(1, 0), 3);
        Check.same("one below the highest", line.breaks(6, 0), 3);
        Check.same("the highest", line.breaks(7, 0), 1);
        Refused.inAll("the one behind", Check.INDEX, h -> h.breaks(h.issuers(), 0));
        Refused.inAll("NONE", Check.INDEX, h -> h.breaks(NONE, 0));
    }

    private static void breaksDay() {
        Sentence.of(25, "`day`: 0 to 5000");
        CertHerd herd = States.root(50);
        herd.issue(0, 0, 1);
        Check.same("0", herd.breaks(0, 0), 1);
        Check.same("5000", herd.breaks(0, 5000), 0);
        Refused.in(States::busy, "-1", Check.ARGUMENT, h -> h.breaks(0, -1));
        Refused.in(States::busy, "5001", Check.ARGUMENT, h -> h.breaks(0, 5001));
    }

    private static void breaksSet() {
        Sentence.of(25, "Returns the set.");
        CertHerd herd = States.root(50);
        Check.same("nothing covered", herd.breaks(0, 0), 0);
        for (int name = 0; name < 16; name++) {
            CertHerd one = States.root(50);
            one.issue(0, name, 1);
            Check.same("name " + name, one.breaks(0, 0), 1 << name);
        }
        for (int zone = 16; zone < 20; zone++) {
            herd.issue(0, zone, 1);
        }
        Check.same("all", herd.breaks(0, 0), 65535);
        Check.same("none of them on the next day", herd.breaks(0, 1), 0);
    }

    private static void breaksNoSuchIssuer() {
        Sentence.of(25, "Throws `IndexOutOfBoundsException` if there is no such issuer");
        for (int wrong : WRONG_ISSUERS) {
            Refused.inAll("issuer " + wrong, Check.INDEX, h -> h.breaks(wrong, 0));
            Refused.inAll("issuer ahead of day " + wrong, Check.INDEX, h -> h.breaks(wrong, 5001));
        }
    }

    private static void breaksOutOfRange() {
        Sentence.of(25, "Throws `IllegalArgumentException` if day is out of range");
        for (int wrong : WRONG_DAYS) {
            Refused.in(States::busy, "day " + wrong, Check.ARGUMENT, h -> h.breaks(3, wrong));
        }
    }

    private static void weakest() {
        Sentence.of(26, "Returns the issuer without which most names would break on a day, of several the lowest.");
        CertHerd herd = breaking();
        Check.same("0 and 2 alike, with three", herd.weakest(4), 0);
        Check.same("2 alone, with three", herd.weakest(5), 2);
        Check.same("1 and 2 alike, with three", herd.weakest(21), 1);
        herd.distrust(2, 6);
        Check.same("3 alone, with two", herd.weakest(6), 3);
        CertHerd eight = roots(8);
        for (int issuer = 0; issuer < 8; issuer++) {
            eight.issue(issuer, issuer, 5);
        }
        Check.same("eight alike", eight.weakest(0), 0);
        eight.issue(7, 8, 5);
        Check.same("the highest, by one more", eight.weakest(0), 7);
        eight.issue(3, 9, 5);
        Check.same("a lower one alike", eight.weakest(0), 3);
        eight.issue(7, 3, 5);
        Check.same("the lower one has one less, what two cover doesn't count", eight.weakest(0), 7);
        eight.issue(2, 19, 3);
        Check.same("a zone counts as its four names", eight.weakest(0), 2);
        Check.same("on its last day", eight.weakest(2), 2);
        Check.same("on the day behind", eight.weakest(3), 7);
        CertHerd many = roots(2);
        many.issue(0, 15, 5);
        many.issue(1, 0, 5);
        many.issue(1, 1, 5);
        Check.same("how many names, not which", many.weakest(0), 1);
    }

    private static void weakestDay() {
        Sentence.of(26, "`day`: 0 to 5000");
        CertHerd herd = roots(2);
        herd.issue(1, 0, 1);
        Check.same("0", herd.weakest(0), 1);
        Check.same("5000", herd.weakest(5000), NONE);
        Refused.inAll("-1", Check.ARGUMENT, h -> h.weakest(-1));
        Refused.inAll("5001", Check.ARGUMENT, h -> h.weakest(5001));
    }

    private static void weakestOrNone() {
        Sentence.of(26, "Returns the issuer; NONE if no name would.");
        Check.same("no issuers", new CertHerd().weakest(0), NONE);
        CertHerd herd = roots(2);
        Check.same("no certificates", herd.weakest(0), NONE);
        herd.issue(0, 0, 5);
        Check.same("one name is enough", herd.weakest(0), 0);
        herd.issue(1, 16, 5);
        Check.same("three of the other", herd.weakest(0), 1);
        herd.issue(0, 16, 5);
        Check.same("all are covered by both", herd.weakest(0), NONE);
        herd.distrust(0, 3);
        Check.same("ahead of the distrust of one", herd.weakest(2), NONE);
        Check.same("from the distrust of one", herd.weakest(3), 1);
        herd.distrust(1, 3);
        Check.same("none is covered", herd.weakest(3), NONE);
        Check.same("all have ended", herd.weakest(5), NONE);
    }

    private static void weakestOutOfRange() {
        Sentence.of(26, "Throws `IllegalArgumentException` if day is out of range");
        for (int wrong : WRONG_DAYS) {
            Refused.inAll("day " + wrong, Check.ARGUMENT, h -> h.weakest(wrong));
        }
    }
}
