/** Promises 1 to 6: for each sentence a test at the edges that it names. */
public final class IssuerEdgeTest {
    private static final int NONE = CertHerd.NONE;
    private static final int MIN = Integer.MIN_VALUE;
    private static final int MAX = Integer.MAX_VALUE;

    public static void main(String[] args) {
        Sentence.test(
                IssuerEdgeTest::newObject, IssuerEdgeTest::addIssuer, IssuerEdgeTest::addIssuerSigner,
                IssuerEdgeTest::addIssuerFrom, IssuerEdgeTest::addIssuerTo, IssuerEdgeTest::addIssuerLimit,
                IssuerEdgeTest::addIssuerNumber, IssuerEdgeTest::addIssuerNoSuchSigner,
                IssuerEdgeTest::addIssuerOutOfRange, IssuerEdgeTest::addIssuerFull, IssuerEdgeTest::cross,
                IssuerEdgeTest::crossIssuer, IssuerEdgeTest::crossSigner, IssuerEdgeTest::crossEnd,
                IssuerEdgeTest::crossNoSuchIssuer, IssuerEdgeTest::crossNotBelow,
                IssuerEdgeTest::crossNotPossible, IssuerEdgeTest::distrust, IssuerEdgeTest::distrustIssuer,
                IssuerEdgeTest::distrustDay, IssuerEdgeTest::distrustBefore,
                IssuerEdgeTest::distrustNoSuchIssuer, IssuerEdgeTest::distrustOutOfRange, IssuerEdgeTest::pin,
                IssuerEdgeTest::pinName, IssuerEdgeTest::pinPins, IssuerEdgeTest::pinBefore,
                IssuerEdgeTest::pinNoSuchName, IssuerEdgeTest::pinOutOfRange, IssuerEdgeTest::setSeed,
                IssuerEdgeTest::setSeedAny);
        Sentence.end("Promise 1", "Promise 2", "Promise 3", "Promise 4", "Promise 5", "Promise 6");
    }

    private static void newObject() {
        Sentence.of(1, "Begins without issuers and certificates.");
        CertHerd herd = new CertHerd();
        Check.same("issuers", herd.issuers(), 0);
        Check.same("certificates", herd.certificates(), 0);
        Check.same("waiting", herd.waiting(), 0);
        Check.same("covered at first", herd.covered(0), 0);
        Check.same("covered at last", herd.covered(5000), 0);
        Check.same("weakest", herd.weakest(0), NONE);
        Check.same("gap", herd.nextGap(15, 5000), 5000);
        Check.same("nothing comes", herd.pass(100), 0);
        Check.same("today", herd.today(), 100);
        Refused.in(CertHerd::new, "the first issuer", Check.INDEX, h -> h.room(0));
        Refused.in(CertHerd::new, "the first certificate", Check.INDEX, h -> h.renewal(0));
        Refused.in(CertHerd::new, "the first place", Check.INDEX, h -> h.waitingAt(0));
        Refused.in(CertHerd::new, "no issuer to issue", Check.INDEX, h -> h.issue(0, 0, 1));
        CertHerd used = States.eightIssuers();
        CertHerd next = new CertHerd();
        Check.same("another object's issuers", next.issuers(), 0);
        Check.same("another object's certificates", next.certificates(), 0);
        Check.same("another object's pins", next.pin(5, 255), 0);
        Check.same("another object's day", next.today(), 0);
        Check.same("as it was", used.pin(5, 0), 13);
    }

    private static void addIssuer() {
        Sentence.of(2, "Adds an issuer.");
        CertHerd herd = States.root(5);
        Check.same("before", herd.issuers(), 1);
        herd.addIssuer(NONE, 0, 0, 0);
        Check.same("one more", herd.issuers(), 2);
        Check.same("it can be asked for", herd.chainEnd(1), 0);
        Check.same("the one before stays as it was", herd.chainEnd(0) + herd.room(0), 5005);
    }

    private static void addIssuerSigner() {
        Sentence.of(2, "`signer`: an issuer that has signed it; or NONE, so that it is a root");
        CertHerd herd = new CertHerd();
        herd.addIssuer(NONE, 0, 100, 5);
        herd.addIssuer(NONE, 0, 200, 5);
        Check.same("a root has no other end", herd.chainEnd(1), 200);
        herd.addIssuer(0, 0, 5000, 5);
        Check.same("signed by the first", herd.chainEnd(2), 100);
        herd.addIssuer(2, 0, 5000, 5);
        Check.same("signed by the last", herd.chainEnd(3), 100);
        herd.addIssuer(1, 0, 5000, 5);
        Check.same("signed by one between", herd.chainEnd(4), 200);
    }

    private static void addIssuerFrom() {
        Sentence.of(2, "`from`: its first day, 0 to 5000");
        CertHerd herd = new CertHerd();
        Check.same("0", herd.addIssuer(NONE, 0, 5000, 5), 0);
        Check.same("5000", herd.addIssuer(NONE, 5000, 5000, 5), 1);
        Check.same("from 0 on", herd.isGood(0, 0), true);
        Check.same("not ahead of 5000", herd.isGood(1, 4999), false);
        Check.same("on 5000", herd.isGood(1, 5000), true);
        for (int from : new int[] {-1, 5001, MIN, MAX}) {
            int to = Math.max(0, Math.min(5000, from));
            Refused.inAll("from " + from, Check.ARGUMENT, h -> h.addIssuer(NONE, from, to, 5));
            Refused.inAll("from and to " + from, Check.ARGUMENT, h -> h.addIssuer(NONE, from, from, 5));
        }
    }

    private static void addIssuerTo() {
        Sentence.of(2, "`to`: its last day, from to 5000");
        CertHerd herd = new CertHerd();
        Check.same("from", herd.addIssuer(NONE, 7, 7, 5), 0);
        Check.same("5000", herd.addIssuer(NONE, 7, 5000, 5), 1);
        Check.same("on the one day", herd.isGood(0, 7), true);
        Check.same("not ahead", herd.isGood(0, 6), false);
        Check.same("not behind", herd.isGood(0, 8), false);
        Check.same("until 5000", herd.isGood(1, 5000), true);
        for (int to : new int[] {6, -1, 0, 5001, MIN, MAX}) {
            Refused.inAll("to " + to, Check.ARGUMENT, h -> h.addIssuer(NONE, 7, to, 5));
        }
        Refused.inAll("to 4999", Check.ARGUMENT, h -> h.addIssuer(NONE, 5000, 4999, 5));
    }

    private static void addIssuerLimit() {
        Sentence.of(2, "`limit`: 0 to 50 for a week");
        CertHerd herd = new CertHerd();
        Check.same("0", herd.addIssuer(NONE, 0, 5000, 0), 0);
        Check.same("50", herd.addIssuer(NONE, 0, 5000, 50), 1);
        Check.same("room of 0", herd.room(0), 0);
        Check.same("room of 50", herd.room(1), 50);
        for (int limit : new int[] {-1, 51, MIN, MAX}) {
            Refused.inAll("limit " + limit, Check.ARGUMENT, h -> h.addIssuer(NONE, 0, 5000, limit));
        }
    }

    private static void addIssuerNumber() {
        Sentence.of(2, "Returns its number.");
        CertHerd herd = new CertHerd();
        Check.same("the first", herd.addIssuer(NONE, 0, 1, 1), 0);
        Check.same("the second", herd.addIssuer(NONE, 0, 1, 1), 1);
        Check.fails("one that is refused", Check.ARGUMENT, () -> herd.addIssuer(NONE, 2, 1, 1));
        Check.same("takes no number", herd.addIssuer(0, 0, 1, 1), 2);
        for (int issuer = 3; issuer < 7; issuer++) {
            herd.addIssuer(0, 0, 1, 1);
        }
        Check.same("the last", herd.addIssuer(6, 0, 1, 1), 7);
    }

    private static void addIssuerNoSuchSigner() {
        Sentence.of(2, "Throws `IndexOutOfBoundsException` if there is no such issuer signer, and it is not NONE");
        for (int signer : new int[] {-2, 8, MIN, MAX}) {
            Refused.inAll("signer " + signer, Check.INDEX, h -> h.addIssuer(signer, 0, 1, 1));
            Refused.inAll("signer ahead of from", Check.INDEX, h -> h.addIssuer(signer, -1, 1, 1));
            Refused.inAll("signer ahead of to", Check.INDEX, h -> h.addIssuer(signer, 1, 0, 1));
            Refused.inAll("signer ahead of limit", Check.INDEX, h -> h.addIssuer(signer, 0, 1, 51));
        }
        Refused.inAll("signer itself", Check.INDEX, h -> h.addIssuer(h.issuers(), 0, 1, 1));
        Check.same("NONE is none of these", new CertHerd().addIssuer(NONE, 0, 1, 1), 0);
        Check.same("the highest there is", States.busy().addIssuer(3, 0, 1, 1), 4);
    }

    private static void addIssuerOutOfRange() {
        Sentence.of(2, "Throws `IllegalArgumentException` if from, to or limit is out of range");
        Refused.in(States::busy, "from", Check.ARGUMENT, h -> h.addIssuer(3, -1, 5000, 50));
        Refused.in(States::busy, "to", Check.ARGUMENT, h -> h.addIssuer(3, 0, 5001, 50));
        Refused.in(States::busy, "limit", Check.ARGUMENT, h -> h.addIssuer(3, 0, 5000, 51));
        Refused.in(States::eightIssuers, "from ahead of 8", Check.ARGUMENT, h -> h.addIssuer(7, 5001, 5001, 0));
        Refused.in(States::eightIssuers, "to ahead of 8", Check.ARGUMENT, h -> h.addIssuer(7, 1, 0, 0));
        Refused.in(States::eightIssuers, "limit ahead of 8", Check.ARGUMENT, h -> h.addIssuer(7, 0, 0, -1));
        Check.same("all in range", States.busy().addIssuer(3, 0, 5000, 50), 4);
    }

    private static void addIssuerFull() {
        Sentence.of(2, "Throws `IllegalStateException` if there are 8");
        Refused.in(States::eightIssuers, "a root", Check.STATE, h -> h.addIssuer(NONE, 0, 5000, 50));
        Refused.in(States::eightIssuers, "one that is signed", Check.STATE, h -> h.addIssuer(7, 5000, 5000, 0));
        CertHerd seven = States.busy();
        for (int issuer = 4; issuer < 7; issuer++) {
            seven.addIssuer(NONE, 0, 1, 1);
        }
        Check.same("there are 7", seven.addIssuer(NONE, 0, 1, 1), 7);
    }

    /** Two roots that end on the days 100 and 300, 2 and 3 signed by the first, 4 by 2. */
    private static CertHerd uncrossed() {
        CertHerd herd = new CertHerd();
        herd.addIssuer(NONE, 0, 100, 5);
        herd.addIssuer(NONE, 200, 300, 5);
        herd.addIssuer(0, 0, 250, 5);
        herd.addIssuer(0, 0, 80, 5);
        herd.addIssuer(2, 0, 5000, 5);
        return herd;
    }

    private static void cross() {
        Sentence.of(3, "Lets an issuer be signed by a second one, too.");
        CertHerd herd = uncrossed();
        herd.cross(2, 1);
        Check.same("the first one, too", herd.isGood(2, 100), true);
        Check.same("the second", herd.isGood(2, 200), true);
        Check.same("neither", herd.isGood(2, 101) || herd.isGood(2, 199), false);
        Check.same("what it has signed", herd.isGood(4, 250), true);
        Check.same("chains", herd.chains(2) * 10 + herd.chains(4), 22);
        Check.same("another one signed by the first", herd.chains(3), 1);
        CertHerd later = uncrossed();
        later.issue(4, 0, 400);
        Check.same("before", later.nextGap(0, 0), 101);
        later.cross(4, 3);
        Check.same("shorter ones don't help", later.nextGap(0, 0), 101);
        later.cross(2, 1);
        Check.same("what was issued is valid by it", later.isCovered(0, 200), true);
    }

    private static void crossIssuer() {
        Sentence.of(3, "`issuer`: an issuer");
        CertHerd herd = States.eightIssuers();
        Check.same("the lowest that is signed", States.busy().cross(2, 1), 400);
        Check.same("one between", herd.cross(6, 0), 494);
        CertHerd last = uncrossed();
        Check.same("the highest", last.cross(4, 3), 100);
        Refused.inAll("the one behind", Check.INDEX, h -> h.cross(h.issuers(), 0));
        Refused.inAll("-1", Check.INDEX, h -> h.cross(-1, 0));
    }

    private static void crossSigner() {
        Sentence.of(3, "`signer`: an issuer with a lower number");
        Check.same("the lowest", lineOf8().cross(7, 0), 5000);
        Check.same("the one next below the signer", lineOf8().cross(7, 5), 5000);
        Check.same("the one next below the issuer", uncrossed().cross(4, 3), 100);
        Refused.in(IssuerEdgeTest::uncrossed, "itself", Check.ARGUMENT, h -> h.cross(3, 3));
        Refused.in(IssuerEdgeTest::uncrossed, "the next above", Check.ARGUMENT, h -> h.cross(3, 4));
    }

    private static CertHerd lineOf8() {
        CertHerd herd = new CertHerd();
        for (int issuer = 0; issuer < 8; issuer++) {
            herd.addIssuer(issuer - 1, 0, 5000, 5);
        }
        return herd;
    }

    private static void crossEnd() {
        Sentence.of(3, "Returns until which day its longest-lived chain lasts then.");
        CertHerd herd = uncrossed();
        Check.same("the second is longer, but it ends itself", herd.cross(2, 1), 250);
        Check.same("shows above", herd.chainEnd(4), 250);
        Check.same("the second is shorter", herd.cross(4, 3), 250);
        Check.same("its own end is least", herd.cross(3, 1), 80);
        CertHerd distrusted = uncrossed();
        distrusted.distrust(1, 0);
        distrusted.distrust(4, 0);
        Check.same("whoever is distrusted", distrusted.cross(4, 1), 300);
        Check.same("as chainEnd tells", distrusted.chainEnd(4), 300);
        CertHerd edges = new CertHerd();
        edges.addIssuer(NONE, 0, 0, 5);
        edges.addIssuer(NONE, 5000, 5000, 5);
        edges.addIssuer(0, 0, 5000, 5);
        Check.same("the last day there is", edges.cross(2, 1), 5000);
        edges.addIssuer(0, 0, 0, 5);
        Check.same("the first day there is", edges.cross(3, 2), 0);
    }

    private static void crossNoSuchIssuer() {
        Sentence.of(3, "Throws `IndexOutOfBoundsException` if there is no such issuer or signer");
        for (int wrong : new int[] {-1, 8, MIN, MAX}) {
            Refused.inAll("issuer " + wrong, Check.INDEX, h -> h.cross(wrong, 0));
            Refused.inAll("signer " + wrong, Check.INDEX, h -> h.cross(0, wrong));
            Refused.inAll("both " + wrong, Check.INDEX, h -> h.cross(wrong, wrong));
        }
        Refused.in(States::busy, "signer NONE of one that is signed", Check.INDEX, h -> h.cross(2, NONE));
        Refused.in(States::busy, "the first issuer that is not there", Check.INDEX, h -> h.cross(4, 3));
        Refused.in(States::busy, "the first signer that is not there", Check.INDEX, h -> h.cross(3, 4));
    }

    private static void crossNotBelow() {
        Sentence.of(3, "Throws `IllegalArgumentException` if signer is not below issuer");
        Refused.in(States::busy, "itself", Check.ARGUMENT, h -> h.cross(2, 2));
        Refused.in(States::busy, "above", Check.ARGUMENT, h -> h.cross(2, 3));
        Refused.in(States::busy, "itself, a root", Check.ARGUMENT, h -> h.cross(0, 0));
        Refused.in(States::busy, "above a root", Check.ARGUMENT, h -> h.cross(0, 3));
        Refused.in(States::busy, "itself, signed by two", Check.ARGUMENT, h -> h.cross(3, 3));
    }

    private static void crossNotPossible() {
        Sentence.of(3, "Throws `IllegalStateException` if the issuer is a root, or two have signed it,"
                + " or this one has");
        Refused.in(States::busy, "a root", Check.STATE, h -> h.cross(1, 0));
        Refused.in(States::busy, "two have signed it, a third", Check.STATE, h -> h.cross(3, 0));
        Refused.in(States::busy, "two have signed it, the first again", Check.STATE, h -> h.cross(3, 2));
        Refused.in(States::busy, "two have signed it, the second again", Check.STATE, h -> h.cross(3, 1));
        Refused.in(States::busy, "this one has", Check.STATE, h -> h.cross(2, 0));
        Refused.in(States::eightIssuers, "this one has, the highest", Check.STATE, h -> h.cross(6, 5));
        Check.same("another one", States.busy().cross(2, 1), 400);
    }

    private static void distrust() {
        Sentence.of(4, "Lets an issuer be distrusted from a day on, in place of another one.");
        CertHerd herd = States.root(5);
        herd.addIssuer(0, 0, 5000, 5);
        herd.distrust(0, 20);
        Check.same("ahead of the day", herd.isGood(0, 19), true);
        Check.same("the day", herd.isGood(0, 20), false);
        Check.same("to the last one", herd.isGood(0, 5000), false);
        Check.same("and what it has signed", herd.isGood(1, 20), false);
        herd.distrust(0, 30);
        Check.same("the later day in place of it", herd.isGood(0, 29), true);
        Check.same("from the later day", herd.isGood(0, 30), false);
        herd.distrust(0, 10);
        Check.same("the earlier day in place of it", herd.isGood(0, 10), false);
        herd.distrust(1, 5);
        Check.same("another issuer's is its own", herd.isGood(0, 9), true);
        Check.same("another issuer's", herd.isGood(1, 5), false);
        Check.same("it takes no place away", herd.addIssuer(0, 0, 5000, 5), 2);
    }

    private static void distrustIssuer() {
        Sentence.of(4, "`issuer`: an issuer");
        CertHerd herd = lineOf8();
        Check.same("the highest", herd.distrust(7, 1), NONE);
        Check.same("those below stay", herd.isGood(6, 1), true);
        Check.same("the lowest", herd.distrust(0, 2), NONE);
        Check.same("those above don't", herd.isGood(6, 2), false);
        Refused.inAll("the one behind", Check.INDEX, h -> h.distrust(h.issuers(), 1));
    }

    private static void distrustDay() {
        Sentence.of(4, "`day`: 0 to 5000; or NONE, so that it is not");
        CertHerd herd = States.root(5);
        herd.distrust(0, 5000);
        Check.same("ahead of 5000", herd.isGood(0, 4999), true);
        Check.same("from 5000", herd.isGood(0, 5000), false);
        herd.distrust(0, 0);
        Check.same("from 0", herd.isGood(0, 0), false);
        herd.distrust(0, NONE);
        Check.same("not at first", herd.isGood(0, 0), true);
        Check.same("not at last", herd.isGood(0, 5000), true);
        herd.pass(9);
        herd.distrust(0, 3);
        Check.same("a day that is over", herd.isGood(0, 2), true);
        Check.fails("from a day that is over", Check.STATE, () -> herd.issue(0, 0, 1));
    }

    private static void distrustBefore() {
        Sentence.of(4, "Returns the day before; NONE.");
        CertHerd herd = States.root(5);
        Check.same("none at first, NONE again", herd.distrust(0, NONE), NONE);
        Check.same("none", herd.distrust(0, 0), NONE);
        Check.same("0", herd.distrust(0, 5000), 0);
        Check.same("5000", herd.distrust(0, 5000), 5000);
        Check.same("the same again", herd.distrust(0, NONE), 5000);
        Check.same("none again", herd.distrust(0, 1), NONE);
    }

    private static void distrustNoSuchIssuer() {
        Sentence.of(4, "Throws `IndexOutOfBoundsException` if there is no such issuer");
        for (int wrong : new int[] {-1, 8, MIN, MAX}) {
            Refused.inAll("issuer " + wrong, Check.INDEX, h -> h.distrust(wrong, 1));
            Refused.inAll("issuer ahead of day " + wrong, Check.INDEX, h -> h.distrust(wrong, 5001));
        }
        Refused.in(States::busy, "the first that is not there", Check.INDEX, h -> h.distrust(4, NONE));
        Check.same("the last that is there", States.busy().distrust(3, 1), NONE);
    }

    private static void distrustOutOfRange() {
        Sentence.of(4, "Throws `IllegalArgumentException` if day is out of range");
        for (int wrong : new int[] {-2, 5001, MIN, MAX}) {
            Refused.in(States::busy, "day " + wrong, Check.ARGUMENT, h -> h.distrust(0, wrong));
            Refused.in(States::busy, "day " + wrong + ", not distrusted", Check.ARGUMENT, h -> h.distrust(3, wrong));
        }
    }

    private static void pin() {
        Sentence.of(5, "Changes the pins of a name.");
        CertHerd herd = States.root(50);
        herd.addIssuer(NONE, 0, 5000, 50);
        herd.pin(0, 2);
        Check.fails("others than the pinned", Check.STATE, () -> herd.issue(0, 0, 1));
        Check.same("the pinned", herd.issue(1, 0, 1), 0);
        Check.same("another name", herd.issue(0, 1, 1), 1);
        herd.pin(0, 1);
        Check.same("now pinned", herd.issue(0, 0, 1), 2);
        Check.fails("no longer pinned", Check.STATE, () -> herd.issue(1, 0, 1));
        Check.same("what was issued stays", herd.covered(0), 0x0003);
        herd.pin(0, 0);
        Check.same("no pins", herd.issue(1, 0, 1), 3);
        CertHerd renewing = States.root(50);
        renewing.issue(0, 16, 3);
        renewing.pin(3, 128);
        Check.same("pins count for renewing, too", renewing.pass(2), 0);
    }

    private static void pinName() {
        Sentence.of(5, "`name`: 0 to 15");
        CertHerd herd = new CertHerd();
        for (int name = 0; name < 16; name++) {
            Check.same("no pins yet " + name, herd.pin(name, name + 100), 0);
        }
        for (int name = 0; name < 16; name++) {
            Check.same("each its own " + name, herd.pin(name, 0), name + 100);
        }
        Refused.inAll("16", Check.INDEX, h -> h.pin(16, 0));
        Refused.inAll("-1", Check.INDEX, h -> h.pin(-1, 0));
    }

    private static void pinPins() {
        Sentence.of(5, "`pins`: 0 to 255: the set of issuers");
        CertHerd herd = lineOf8();
        herd.pin(2, 255);
        for (int issuer = 0; issuer < 8; issuer++) {
            Check.same("255 has " + issuer, herd.issue(issuer, 2, 1), issuer);
        }
        herd.pin(2, 129);
        Check.same("129 has 0", herd.issue(0, 2, 1), 8);
        Check.same("129 has 7", herd.issue(7, 2, 1), 9);
        Check.fails("129 has not 1", Check.STATE, () -> herd.issue(1, 2, 1));
        Check.fails("129 has not 6", Check.STATE, () -> herd.issue(6, 2, 1));
        herd.pin(2, 0);
        Check.same("0 has none, so that any may", herd.issue(6, 2, 1), 10);
        Check.same("issuers that are not there yet", new CertHerd().pin(2, 255), 0);
    }

    private static void pinBefore() {
        Sentence.of(5, "Returns the pins before.");
        CertHerd herd = new CertHerd();
        Check.same("none at first", herd.pin(15, 255), 0);
        Check.same("255", herd.pin(15, 1), 255);
        Check.same("in place of, not added", herd.pin(15, 0), 1);
        Check.same("none again", herd.pin(15, 128), 0);
        Check.same("128", herd.pin(15, 128), 128);
    }

    private static void pinNoSuchName() {
        Sentence.of(5, "Throws `IndexOutOfBoundsException` if there is no such name");
        for (int wrong : new int[] {-1, 16, MIN, MAX}) {
            Refused.inAll("name " + wrong, Check.INDEX, h -> h.pin(wrong, 1));
            Refused.inAll("name ahead of pins " + wrong, Check.INDEX, h -> h.pin(wrong, 256));
        }
    }

    private static void pinOutOfRange() {
        Sentence.of(5, "Throws `IllegalArgumentException` if pins is out of range");
        for (int wrong : new int[] {-1, 256, MIN, MAX}) {
            Refused.inAll("pins " + wrong, Check.ARGUMENT, h -> h.pin(5, wrong));
            Refused.inAll("pins " + wrong + " of the last name", Check.ARGUMENT, h -> h.pin(15, wrong));
        }
    }

    private static int dueAfter(int seed) {
        CertHerd herd = States.root(1);
        herd.setSeed(seed);
        return herd.dueOn(herd.issue(0, 0, 400));
    }

    private static void setSeed() {
        Sentence.of(6, "Sets the seed.");
        CertHerd herd = States.root(50);
        Check.same("1 at first", herd.dueOn(herd.issue(0, 0, 400)), 266 + 16838 % 67);
        herd.setSeed(0);
        Check.same("in place of what was drawn", herd.dueOn(herd.issue(0, 0, 400)), 266);
        herd.setSeed(1);
        Check.same("the first one again", herd.dueOn(herd.issue(0, 0, 400)), 266 + 16838 % 67);
        Check.same("what was drawn stays", herd.dueOn(1), 266);
        CertHerd other = States.root(50);
        Check.same("another object has its own", other.dueOn(other.issue(0, 0, 400)), 266 + 16838 % 67);
        CertHerd twice = States.root(50);
        twice.setSeed(-1);
        twice.setSeed(0);
        Check.same("the last one counts", twice.dueOn(twice.issue(0, 0, 400)), 266);
    }

    /** Of 0 comes 12345, of -1 1103515245 less, with the sign told as 2 to the 32 more: 48697 times 65536. */
    private static void setSeedAny() {
        Sentence.of(6, "`seed`: any int");
        Check.same("0", dueAfter(0), 266);
        Check.same("-1", dueAfter(-1), 266 + 48697 % 67);
        Check.same("the least", dueAfter(MIN), 266 + 32768 % 67);
        Check.same("the greatest", dueAfter(MAX), 266 + (48697 - 32768) % 67);
        Check.same("1", dueAfter(1), 266 + 16838 % 67);
    }
}
