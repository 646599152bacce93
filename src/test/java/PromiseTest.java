/** Each promise told by some runs of calls; the edges of each sentence have tests of their own beside this. */
public final class PromiseTest {
    private static final int NONE = CertHerd.NONE;
    private static final int MIN = Integer.MIN_VALUE;
    private static final int MAX = Integer.MAX_VALUE;

    public static void main(String[] args) {
        newObject();
        addIssuer();
        addIssuerWrong();
        cross();
        crossWrong();
        distrust();
        pin();
        setSeed();
        issue();
        issueLimits();
        issueWrong();
        pass();
        passQueue();
        passUpTo60();
        passBounds();
        countsAndToday();
        certificateQuestions();
        dueOn();
        renewal();
        waiting();
        room();
        isGood();
        chainEnd();
        chains();
        isCovered();
        nextGap();
        covered();
        breaks();
        weakest();
        Check.end();
    }

    /** An object with one root that is good on all days. */
    private static CertHerd withRoot(int limit) {
        CertHerd herd = new CertHerd();
        herd.addIssuer(NONE, 0, 5000, limit);
        return herd;
    }

    /** Promise 1. */
    private static void newObject() {
        CertHerd herd = new CertHerd();
        Check.same("1 issuers", herd.issuers(), 0);
        Check.same("1 certificates", herd.certificates(), 0);
        Check.same("1 today", herd.today(), 0);
        Check.same("1 waiting", herd.waiting(), 0);
        Check.same("1 covered", herd.covered(0), 0);
        Check.same("1 weakest", herd.weakest(0), NONE);
        for (int name = 0; name < 16; name++) {
            Check.same("1 pins " + name, herd.pin(name, 0), 0);
        }
        CertHerd other = withRoot(1);
        other.issue(0, 0, 1);
        Check.same("1 apart", herd.issuers() + herd.certificates(), 0);
    }

    /** Promise 2. */
    private static void addIssuer() {
        CertHerd herd = new CertHerd();
        Check.same("2 first", herd.addIssuer(NONE, 0, 0, 0), 0);
        Check.same("2 last days", herd.addIssuer(NONE, 5000, 5000, 50), 1);
        Check.same("2 signed", herd.addIssuer(1, 0, 5000, 7), 2);
        Check.same("2 room 0", herd.room(0), 0);
        Check.same("2 room 50", herd.room(1), 50);
        Check.same("2 room 7", herd.room(2), 7);
        Check.same("2 good on its one day", herd.isGood(0, 0), true);
        Check.same("2 not behind it", herd.isGood(0, 1), false);
        Check.same("2 the signer's first day counts", herd.isGood(2, 4999), false);
        Check.same("2 signed and good", herd.isGood(2, 5000), true);
        Check.same("2 not distrusted", herd.distrust(2, NONE), NONE);
        for (int issuer = 3; issuer < 8; issuer++) {
            Check.same("2 up to 8", herd.addIssuer(NONE, 1, 2, 3), issuer);
        }
        Check.same("2 issuers", herd.issuers(), 8);
    }

    private static void addIssuerWrong() {
        CertHerd empty = new CertHerd();
        Check.fails("2 signer of none", Check.INDEX, () -> empty.addIssuer(0, 0, 1, 1));
        CertHerd herd = withRoot(5);
        Check.fails("2 signer itself", Check.INDEX, () -> herd.addIssuer(1, 0, 1, 1));
        Check.fails("2 signer -2", Check.INDEX, () -> herd.addIssuer(-2, 0, 1, 1));
        Check.fails("2 signer least", Check.INDEX, () -> herd.addIssuer(MIN, 0, 1, 1));
        Check.fails("2 signer most", Check.INDEX, () -> herd.addIssuer(MAX, 0, 1, 1));
        Check.fails("2 signer ahead of from", Check.INDEX, () -> herd.addIssuer(1, -1, 1, 1));
        Check.fails("2 from below", Check.ARGUMENT, () -> herd.addIssuer(NONE, -1, 1, 1));
        Check.fails("2 from above", Check.ARGUMENT, () -> herd.addIssuer(NONE, 5001, 5001, 1));
        Check.fails("2 to below from", Check.ARGUMENT, () -> herd.addIssuer(NONE, 10, 9, 1));
        Check.fails("2 to above", Check.ARGUMENT, () -> herd.addIssuer(NONE, 10, 5001, 1));
        Check.fails("2 limit below", Check.ARGUMENT, () -> herd.addIssuer(0, 0, 1, -1));
        Check.fails("2 limit above", Check.ARGUMENT, () -> herd.addIssuer(0, 0, 1, 51));
        for (int issuer = 1; issuer < 8; issuer++) {
            herd.addIssuer(0, 0, 10, 1);
        }
        Check.fails("2 a ninth", Check.STATE, () -> herd.addIssuer(NONE, 0, 1, 1));
        Check.fails("2 argument ahead of state", Check.ARGUMENT, () -> herd.addIssuer(7, 2, 1, 1));
        Check.fails("2 limit ahead of state", Check.ARGUMENT, () -> herd.addIssuer(7, 0, 1, 51));
        Check.fails("2 index ahead of all", Check.INDEX, () -> herd.addIssuer(8, 2, 1, 51));
    }

    /** Promise 3. */
    private static void cross() {
        CertHerd herd = new CertHerd();
        herd.addIssuer(NONE, 0, 100, 5);
        herd.addIssuer(NONE, 0, 300, 5);
        herd.addIssuer(0, 0, 200, 5);
        herd.addIssuer(2, 0, 150, 5);
        herd.addIssuer(2, 0, 900, 5);
        Check.same("3 ahead", herd.chainEnd(3), 100);
        Check.same("3 longer by the second", herd.cross(2, 1), 200);
        Check.same("3 shows above", herd.chainEnd(3), 150);
        Check.same("3 shows above, too", herd.chainEnd(4), 200);
        Check.same("3 good by the second", herd.isGood(4, 200), true);
        Check.same("3 no longer than its chain", herd.isGood(4, 201), false);
        Check.same("3 second is shorter", herd.cross(4, 0), 200);
        Check.same("3 next", herd.cross(3, 2 - 1), 150);
        Check.same("3 chains", herd.chains(4), 3);
    }

    private static void crossWrong() {
        CertHerd herd = new CertHerd();
        herd.addIssuer(NONE, 0, 100, 5);
        herd.addIssuer(NONE, 0, 100, 5);
        herd.addIssuer(0, 0, 100, 5);
        herd.addIssuer(2, 0, 100, 5);
        Check.fails("3 no issuer", Check.INDEX, () -> herd.cross(4, 0));
        Check.fails("3 issuer -1", Check.INDEX, () -> herd.cross(-1, 0));
        Check.fails("3 no signer", Check.INDEX, () -> herd.cross(2, 4));
        Check.fails("3 signer NONE", Check.INDEX, () -> herd.cross(2, NONE));
        Check.fails("3 signer most", Check.INDEX, () -> herd.cross(2, MAX));
        Check.fails("3 signer itself", Check.ARGUMENT, () -> herd.cross(2, 2));
        Check.fails("3 signer above", Check.ARGUMENT, () -> herd.cross(2, 3));
        Check.fails("3 a root and not below", Check.ARGUMENT, () -> herd.cross(0, 1));
        Check.fails("3 a root", Check.STATE, () -> herd.cross(1, 0));
        Check.fails("3 signed by this one", Check.STATE, () -> herd.cross(2, 0));
        Check.same("3 a second one", herd.cross(3, 0), 100);
        Check.fails("3 a third one", Check.STATE, () -> herd.cross(3, 1));
        Check.fails("3 the second one again", Check.STATE, () -> herd.cross(3, 0));
        Check.fails("3 two, and not below", Check.ARGUMENT, () -> herd.cross(3, 3));
    }

    /** Promise 4. */
    private static void distrust() {
        CertHerd herd = withRoot(5);
        herd.addIssuer(0, 0, 5000, 5);
        Check.same("4 first", herd.distrust(0, 10), NONE);
        Check.same("4 day ahead", herd.isGood(0, 9), true);
        Check.same("4 the day", herd.isGood(0, 10), false);
        Check.same("4 days behind", herd.isGood(0, 5000), false);
        Check.same("4 what it signs", herd.isGood(1, 10), false);
        Check.same("4 what it signs, ahead", herd.isGood(1, 9), true);
        Check.same("4 again", herd.distrust(0, 20), 10);
        Check.same("4 moved", herd.isGood(0, 19), true);
        Check.same("4 moved to", herd.isGood(0, 20), false);
        Check.same("4 from 0", herd.distrust(0, 0), 20);
        Check.same("4 never good", herd.isGood(0, 0), false);
        Check.same("4 taken back", herd.distrust(0, NONE), 0);
        Check.same("4 good again", herd.isGood(0, 5000), true);
        Check.same("4 none before", herd.distrust(0, 5000), NONE);
        Check.same("4 last day", herd.isGood(0, 4999), true);
        Check.same("4 on the last day", herd.isGood(0, 5000), false);
        Check.fails("4 no issuer", Check.INDEX, () -> herd.distrust(2, 1));
        Check.fails("4 issuer -1", Check.INDEX, () -> herd.distrust(-1, -2));
        Check.fails("4 below", Check.ARGUMENT, () -> herd.distrust(0, -2));
        Check.fails("4 above", Check.ARGUMENT, () -> herd.distrust(0, 5001));
    }

    /** Promise 5. */
    private static void pin() {
        CertHerd herd = withRoot(50);
        herd.addIssuer(NONE, 0, 5000, 50);
        Check.same("5 none yet", herd.pin(5, 2), 0);
        Check.fails("5 name", Check.STATE, () -> herd.issue(0, 5, 10));
        Check.fails("5 zone", Check.STATE, () -> herd.issue(0, 17, 10));
        Check.same("5 the pinned one", herd.issue(1, 5, 10), 0);
        Check.same("5 the pinned one, zone", herd.issue(1, 17, 10), 1);
        Check.same("5 another name of the zone", herd.issue(0, 4, 10), 2);
        Check.same("5 the zone below", herd.issue(0, 16, 10), 3);
        Check.same("5 the zone above", herd.issue(0, 18, 10), 4);
        Check.same("5 before", herd.pin(5, 3), 2);
        Check.same("5 both", herd.issue(0, 17, 10), 5);
        herd.pin(4, 1);
        herd.pin(7, 2);
        Check.fails("5 one of them not", Check.STATE, () -> herd.issue(0, 17, 10));
        Check.fails("5 nor the other", Check.STATE, () -> herd.issue(1, 17, 10));
        Check.same("5 cleared", herd.pin(7, 0), 2);
        Check.same("5 as before", herd.issue(0, 17, 10), 6);
        Check.same("5 what is not there yet", herd.pin(0, 128), 0);
        Check.fails("5 none of these", Check.STATE, () -> herd.issue(0, 0, 10));
        Check.same("5 all", herd.pin(15, 255), 0);
        Check.same("5 all issue", herd.issue(0, 15, 10), 7);
        Check.same("5 pins don't uncover", herd.pin(4, 128), 1);
        Check.same("5 still covered", herd.isCovered(4, 0), true);
        Check.fails("5 name above", Check.INDEX, () -> herd.pin(16, 0));
        Check.fails("5 name below", Check.INDEX, () -> herd.pin(-1, 256));
        Check.fails("5 pins below", Check.ARGUMENT, () -> herd.pin(0, -1));
        Check.fails("5 pins above", Check.ARGUMENT, () -> herd.pin(0, 256));
    }

    private static int offset(int seed, int length) {
        CertHerd herd = withRoot(50);
        herd.setSeed(seed);
        return herd.dueOn(herd.issue(0, 0, length)) - 2 * length / 3;
    }

    /** Promise 6. The seeds that come: of 1 it is 1103527590, of 0 it is 12345, of -1 it is -1103502900. */
    private static void setSeed() {
        Check.same("6 of 1", offset(1, 400), 16838 % 67);
        Check.same("6 of 0", offset(0, 400), 0);
        Check.same("6 of -1, without sign", offset(-1, 400), 48697 % 67);
        Check.same("6 of the least", offset(MIN, 400), 32768 % 67);
        Check.same("6 of the most", offset(MAX, 400), (48697 - 32768) % 67);
        CertHerd first = withRoot(50);
        Check.same("6 is 1 at first", first.dueOn(first.issue(0, 0, 400)), 266 + 16838 % 67);
        CertHerd again = withRoot(50);
        again.setSeed(1103527590);
        first.issue(0, 0, 400);
        again.issue(0, 0, 400);
        Check.same("6 goes on", first.dueOn(1), again.dueOn(0));
        first.setSeed(1);
        Check.same("6 starts over", first.dueOn(first.issue(0, 0, 400)), first.dueOn(0));
        Check.same("6 what is drawn is kept", first.dueOn(1), again.dueOn(0));
    }

    /** Promise 7. */
    private static void issue() {
        CertHerd herd = withRoot(50);
        herd.addIssuer(0, 0, 5000, 50);
        Check.same("7 first", herd.issue(0, 0, 1), 0);
        Check.same("7 second", herd.issue(1, 19, 400), 1);
        Check.same("7 issuer", herd.issuerOf(1), 1);
        Check.same("7 last", herd.lastDay(1), 399);
        herd.pass(3);
        Check.same("7 from today on", herd.issue(1, 15, 5), 2);
        Check.same("7 last from today", herd.lastDay(2), 7);
        Check.same("7 covers", herd.covered(7), 0xF000);
        Check.same("7 same again", herd.issue(1, 15, 5), 3);
        CertHerd full = withRoot(50);
        full.addIssuer(0, 0, 5000, 50);
        for (int number = 0; number < 60; number++) {
            Check.same("7 up to 60", full.issue(number % 2, 0, 1), number);
        }
        Check.fails("7 a 61st", Check.STATE, () -> full.issue(0, 0, 1));
        Check.same("7 there was room", full.room(0), 20);
    }

    private static void issueLimits() {
        CertHerd herd = withRoot(2);
        herd.addIssuer(NONE, 0, 5000, 1);
        herd.addIssuer(NONE, 0, 5000, 0);
        herd.addIssuer(NONE, 3, 9, 50);
        herd.issue(0, 0, 1);
        herd.issue(0, 1, 1);
        Check.fails("7 limit", Check.STATE, () -> herd.issue(0, 2, 1));
        Check.fails("7 limit 0", Check.STATE, () -> herd.issue(2, 2, 1));
        Check.same("7 another's limit", herd.issue(1, 2, 1), 2);
        Check.fails("7 not yet good", Check.STATE, () -> herd.issue(3, 2, 1));
        herd.pass(3);
        Check.same("7 on its first day", herd.issue(3, 2, 1), 3);
        herd.pass(3);
        Check.fails("7 on the week's last day", Check.STATE, () -> herd.issue(0, 2, 1));
        herd.pass(1);
        Check.same("7 in the next week", herd.issue(0, 2, 1), 4);
        herd.pass(2);
        Check.same("7 on its last day", herd.issue(3, 2, 1), 5);
        herd.pass(1);
        Check.fails("7 no longer good", Check.STATE, () -> herd.issue(3, 2, 1));
        herd.distrust(0, 10);
        Check.fails("7 distrusted", Check.STATE, () -> herd.issue(0, 2, 1));
        herd.distrust(0, 11);
        Check.same("7 distrusted later", herd.issue(0, 2, 1), 6);
        herd.addIssuer(0, 0, 5000, 5);
        Check.same("7 by a good chain", herd.issue(4, 2, 1), 7);
        herd.distrust(0, 10);
        Check.fails("7 without a good chain", Check.STATE, () -> herd.issue(4, 2, 1));
    }

    private static void issueWrong() {
        CertHerd herd = withRoot(1);
        Check.fails("7 no issuer", Check.INDEX, () -> herd.issue(1, 0, 1));
        Check.fails("7 issuer -1", Check.INDEX, () -> herd.issue(-1, 0, 1));
        Check.fails("7 issuer ahead of all", Check.INDEX, () -> herd.issue(MIN, 20, 0));
        Check.fails("7 subject below", Check.ARGUMENT, () -> herd.issue(0, -1, 1));
        Check.fails("7 subject above", Check.ARGUMENT, () -> herd.issue(0, 20, 1));
        Check.fails("7 length below", Check.ARGUMENT, () -> herd.issue(0, 0, 0));
        Check.fails("7 length least", Check.ARGUMENT, () -> herd.issue(0, 0, MIN));
        Check.fails("7 length above", Check.ARGUMENT, () -> herd.issue(0, 0, 401));
        Check.same("7 no draw yet", herd.dueOn(herd.issue(0, 0, 400)), 266 + 16838 % 67);
        Check.fails("7 limit", Check.STATE, () -> herd.issue(0, 0, 1));
        Check.fails("7 argument ahead of state", Check.ARGUMENT, () -> herd.issue(0, 20, 1));
        herd.pass(7);
        CertHerd twin = withRoot(50);
        twin.issue(0, 0, 400);
        Check.same("7 a refused call draws nothing", herd.dueOn(herd.issue(0, 0, 400)) - 7,
                twin.dueOn(twin.issue(0, 0, 400)));
    }

    /** Promise 8. */
    private static void pass() {
        CertHerd herd = withRoot(50);
        herd.setSeed(0);
        herd.issue(0, 18, 9);
        Check.same("8 not due", herd.pass(5), 0);
        Check.same("8 due", herd.pass(1), 1);
        Check.same("8 same issuer", herd.issuerOf(1), 0);
        Check.same("8 same length, from then on", herd.lastDay(1), 14);
        Check.same("8 same subject", herd.covered(14), 0xF00);
        Check.same("8 once at most", herd.pass(2), 0);
        Check.same("8 the renewed is renewed", herd.renewal(1), NONE);
        int due = herd.dueOn(1);
        Check.same("8 not before", herd.pass(due - 9), 0);
        Check.same("8 in its turn", herd.pass(2), 1);
        Check.same("8 its renewal", herd.renewal(1), 2);
        Check.same("8 the first keeps its own", herd.renewal(0), 1);
        CertHerd shortest = withRoot(50);
        shortest.issue(0, 0, 1);
        Check.same("8 length 1 has ended", shortest.pass(1), 0);
        shortest.issue(0, 0, 2);
        Check.same("8 length 2 on its last day", shortest.pass(1), 1);
        Check.same("8 one each day", shortest.pass(10), 10);
    }

    /** Lengths below 6 have no offset: the days of all of these are plain. */
    private static void passQueue() {
        CertHerd herd = withRoot(4);
        herd.addIssuer(NONE, 0, 5000, 50);
        herd.pass(5);
        herd.issue(0, 0, 5);
        herd.issue(0, 1, 4);
        herd.issue(0, 2, 4);
        herd.issue(1, 3, 4);
        herd.pin(3, 1);
        herd.distrust(0, 7);
        Check.same("8 distrusted or not pinned", herd.pass(2), 0);
        Check.same("8 all of them wait", herd.waiting(), 3);
        herd.distrust(0, NONE);
        herd.issue(0, 15, 1);
        herd.issue(0, 15, 1);
        Check.same("8 as many as the limit leaves", herd.pass(1), 2);
        Check.same("8 what ends first", herd.renewal(1), 6);
        Check.same("8 by rising numbers", herd.renewal(2), 7);
        Check.same("8 what ends later waits", herd.renewal(0), NONE);
        Check.same("8 what others have pinned waits", herd.renewal(3), NONE);
        Check.same("8 the queue", herd.waitingAt(0) * 10 + herd.waitingAt(1), 30);
        herd.pin(3, 3);
        Check.same("8 ended, and no room", herd.pass(1), 0);
        Check.same("8 one is left", herd.waitingAt(0) + herd.waiting(), 1);
        Check.same("8 what came waits in its turn", herd.pass(1), 0);
        Check.same("8 two of them", herd.waiting(), 2);
        Check.same("8 ended ahead of the next week", herd.pass(4), 0);
    }

    private static void passUpTo60() {
        CertHerd herd = withRoot(50);
        herd.addIssuer(NONE, 0, 5000, 50);
        for (int i = 0; i < 29; i++) {
            herd.issue(0, 0, 5);
        }
        herd.pass(1);
        for (int i = 0; i < 29; i++) {
            herd.issue(1, 0, 3);
        }
        Check.same("8 up to 60", herd.pass(2), 2);
        Check.same("8 there are 60", herd.certificates(), 60);
        Check.same("8 the first to end", herd.renewal(29), 58);
        Check.same("8 the next to end", herd.renewal(30), 59);
        Check.same("8 not what ends later", herd.renewal(0), NONE);
        Check.same("8 no more", herd.pass(5), 0);
    }

    private static void passBounds() {
        CertHerd herd = withRoot(5);
        Check.fails("8 days 0", Check.ARGUMENT, () -> herd.pass(0));
        Check.fails("8 days -1", Check.ARGUMENT, () -> herd.pass(-1));
        Check.fails("8 days 101", Check.ARGUMENT, () -> herd.pass(101));
        Check.fails("8 days most", Check.ARGUMENT, () -> herd.pass(MAX));
        for (int i = 0; i < 29; i++) {
            herd.pass(100);
        }
        herd.pass(99);
        herd.issue(0, 0, 2);
        Check.fails("8 to 3001", Check.STATE, () -> herd.pass(2));
        Check.fails("8 to 3099", Check.STATE, () -> herd.pass(100));
        Check.fails("8 argument ahead of state", Check.ARGUMENT, () -> herd.pass(101));
        Check.same("8 to 3000", herd.pass(1), 1);
        Check.same("8 today is 3000", herd.today(), 3000);
        Check.fails("8 behind 3000", Check.STATE, () -> herd.pass(1));
        Check.same("8 issues on 3000", herd.lastDay(herd.issue(0, 0, 400)), 3399);
    }

    /** Promises 9 to 11. */
    private static void countsAndToday() {
        CertHerd herd = withRoot(5);
        herd.pass(1);
        Check.same("9 a day", herd.today(), 1);
        herd.pass(100);
        Check.same("9 more days", herd.today(), 101);
        Check.same("10 one", herd.issuers(), 1);
        herd.addIssuer(0, 0, 0, 0);
        Check.same("10 two", herd.issuers(), 2);
        herd.distrust(1, 0);
        Check.same("10 distrusted ones, too", herd.issuers(), 2);
        herd.issue(0, 0, 2);
        herd.issue(0, 0, 1);
        Check.same("11 two", herd.certificates(), 2);
        herd.pass(1);
        Check.same("11 one came", herd.certificates(), 3);
        herd.distrust(0, 0);
        herd.pass(100);
        Check.same("11 ended ones, too", herd.certificates(), 3);
    }

    /** Promises 12 to 15: what is wrong in the same way for all, and who issued, and until when. */
    private static void certificateQuestions() {
        CertHerd herd = withRoot(5);
        int[] wrong = {0, -1, 1, 59, 60, MIN, MAX};
        for (int round = 0; round < 2; round++) {
            for (int number : wrong) {
                if (round == 0 || number != 0) {
                    Check.fails("12 " + number, Check.INDEX, () -> herd.issuerOf(number));
                    Check.fails("13 " + number, Check.INDEX, () -> herd.lastDay(number));
                    Check.fails("14 " + number, Check.INDEX, () -> herd.dueOn(number));
                    Check.fails("15 " + number, Check.INDEX, () -> herd.renewal(number));
                }
            }
            if (round == 0) {
                herd.issue(0, 0, 1);
            }
        }
        herd.addIssuer(0, 0, 5000, 5);
        herd.pass(10);
        herd.issue(1, 16, 400);
        Check.same("12 first", herd.issuerOf(0), 0);
        Check.same("12 second", herd.issuerOf(1), 1);
        Check.same("13 of length 1", herd.lastDay(0), 0);
        Check.same("13 of length 400", herd.lastDay(1), 409);
    }

    /** Promise 14. */
    private static void dueOn() {
        CertHerd herd = withRoot(50);
        herd.pass(1);
        herd.setSeed(0);
        Check.same("14 length 1", herd.dueOn(herd.issue(0, 0, 1)), 1);
        herd.setSeed(0);
        Check.same("14 length 2", herd.dueOn(herd.issue(0, 0, 2)), 2);
        herd.setSeed(0);
        Check.same("14 length 4", herd.dueOn(herd.issue(0, 0, 4)), 3);
        herd.setSeed(0);
        Check.same("14 length 5", herd.dueOn(herd.issue(0, 0, 5)), 4);
        herd.setSeed(-1);
        Check.same("14 length 5 has no offset", herd.dueOn(herd.issue(0, 0, 5)), 4);
        herd.setSeed(-1);
        Check.same("14 length 6 has one", herd.dueOn(herd.issue(0, 0, 6)), 1 + 4 + 48697 % 2);
        herd.setSeed(-1);
        Check.same("14 length 400", herd.dueOn(herd.issue(0, 0, 400)), 1 + 266 + 48697 % 67);
    }

    /** Promise 15. */
    private static void renewal() {
        CertHerd herd = withRoot(50);
        herd.setSeed(0);
        herd.issue(0, 0, 3);
        herd.issue(0, 1, 3);
        Check.same("15 not yet", herd.renewal(0), NONE);
        herd.pass(2);
        Check.same("15 first", herd.renewal(0), 2);
        Check.same("15 second", herd.renewal(1), 3);
        Check.same("15 what came", herd.renewal(2), NONE);
        herd.distrust(0, 0);
        herd.pass(100);
        Check.same("15 stays", herd.renewal(0), 2);
        Check.same("15 ended without", herd.renewal(2), NONE);
    }

    /** Promises 16 and 17. */
    private static void waiting() {
        CertHerd herd = withRoot(50);
        herd.setSeed(0);
        herd.issue(0, 0, 20);
        herd.issue(0, 1, 16);
        herd.issue(0, 2, 1);
        herd.issue(0, 3, 1);
        Check.same("16 those of one day are due at once", herd.waiting(), 2);
        Check.same("17 the lower number first", herd.waitingAt(0), 2);
        Check.same("17 the higher next", herd.waitingAt(1), 3);
        Check.fails("17 no third", Check.INDEX, () -> herd.waitingAt(2));
        Check.fails("17 below 0", Check.INDEX, () -> herd.waitingAt(-1));
        Check.fails("17 least", Check.INDEX, () -> herd.waitingAt(MIN));
        Check.fails("17 most", Check.INDEX, () -> herd.waitingAt(MAX));
        herd.distrust(0, 0);
        herd.pass(1);
        Check.same("16 ended ones don't", herd.waiting(), 0);
        Check.fails("17 none", Check.INDEX, () -> herd.waitingAt(0));
        herd.pass(Math.min(herd.dueOn(0), herd.dueOn(1)) - 2);
        Check.same("16 not due by today", herd.waiting(), 0);
        herd.pass(1);
        Check.same("16 due today", herd.waiting(), 1);
        herd.pass(15 - herd.today());
        Check.same("16 both", herd.waiting(), 2);
        Check.same("17 what ends first", herd.waitingAt(0), 1);
        Check.same("17 what ends then", herd.waitingAt(1), 0);
        herd.pass(1);
        Check.same("16 one has ended", herd.waiting(), 1);
        Check.same("17 the other", herd.waitingAt(0), 0);
        herd.distrust(0, NONE);
        Check.same("16 waits until a day passes", herd.waiting(), 1);
        herd.pass(1);
        Check.same("16 renewed ones don't", herd.waiting(), 0);
    }

    /** Promise 18. */
    private static void room() {
        CertHerd herd = withRoot(2);
        herd.addIssuer(NONE, 100, 200, 50);
        Check.same("18 at first", herd.room(0), 2);
        herd.issue(0, 0, 2);
        Check.same("18 less", herd.room(0), 1);
        Check.same("18 each its own", herd.room(1), 50);
        herd.pass(1);
        Check.same("18 a renewal counts", herd.room(0), 0);
        herd.pass(5);
        Check.same("18 on day 6", herd.room(0), 0);
        herd.pass(1);
        Check.same("18 on day 7", herd.room(0), 2);
        herd.issue(0, 0, 1);
        herd.distrust(0, 0);
        Check.same("18 by the limit alone", herd.room(0), 1);
        CertHerd full = withRoot(50);
        full.addIssuer(NONE, 0, 5000, 50);
        for (int i = 0; i < 60; i++) {
            full.issue(i % 2, 0, 1);
        }
        Check.same("18 though there are 60", full.room(0), 20);
        Check.fails("18 no issuer", Check.INDEX, () -> herd.room(2));
        Check.fails("18 below", Check.INDEX, () -> herd.room(-1));
    }

    /** Promise 19. */
    private static void isGood() {
        CertHerd herd = new CertHerd();
        herd.addIssuer(NONE, 10, 50, 5);
        herd.addIssuer(NONE, 40, 90, 5);
        herd.addIssuer(0, 20, 100, 5);
        herd.addIssuer(2, 0, 5000, 5);
        Check.same("19 ahead of its first day", herd.isGood(0, 9), false);
        Check.same("19 on its first day", herd.isGood(0, 10), true);
        Check.same("19 on its last day", herd.isGood(0, 50), true);
        Check.same("19 behind its last day", herd.isGood(0, 51), false);
        Check.same("19 ahead of the middle", herd.isGood(3, 19), false);
        Check.same("19 all hold", herd.isGood(3, 20), true);
        Check.same("19 the root has ended", herd.isGood(3, 51), false);
        herd.cross(2, 1);
        Check.same("19 by the second", herd.isGood(3, 51), true);
        Check.same("19 until its end", herd.isGood(3, 90), true);
        Check.same("19 not behind", herd.isGood(3, 91), false);
        herd.distrust(0, 30);
        Check.same("19 neither holds", herd.isGood(3, 39), false);
        Check.same("19 the second holds", herd.isGood(3, 40), true);
        herd.distrust(2, 60);
        Check.same("19 in the middle", herd.isGood(3, 60), false);
        Check.same("19 day 0", herd.isGood(3, 0), false);
        Check.fails("19 no issuer", Check.INDEX, () -> herd.isGood(4, 0));
        Check.fails("19 issuer ahead of day", Check.INDEX, () -> herd.isGood(-1, -1));
        Check.fails("19 day below", Check.ARGUMENT, () -> herd.isGood(0, -1));
        Check.fails("19 day above", Check.ARGUMENT, () -> herd.isGood(0, 5001));
    }

    /** Promise 20. */
    private static void chainEnd() {
        CertHerd herd = new CertHerd();
        herd.addIssuer(NONE, 4000, 5000, 5);
        herd.addIssuer(NONE, 0, 100, 5);
        herd.addIssuer(1, 200, 300, 5);
        herd.addIssuer(2, 0, 90, 5);
        herd.addIssuer(2, 0, 400, 5);
        Check.same("20 a root", herd.chainEnd(0), 5000);
        Check.same("20 though it never holds", herd.chainEnd(2), 100);
        Check.same("20 its own end is least", herd.chainEnd(3), 90);
        Check.same("20 the root's end is least", herd.chainEnd(4), 100);
        herd.cross(4, 0);
        Check.same("20 the longest-lived", herd.chainEnd(4), 400);
        herd.distrust(0, 0);
        herd.distrust(4, 0);
        Check.same("20 whoever is distrusted", herd.chainEnd(4), 400);
        Check.same("20 others as before", herd.chainEnd(3), 90);
        Check.fails("20 no issuer", Check.INDEX, () -> herd.chainEnd(5));
        Check.fails("20 below", Check.INDEX, () -> herd.chainEnd(NONE));
    }

    /** Promise 21. */
    private static void chains() {
        CertHerd herd = new CertHerd();
        herd.addIssuer(NONE, 0, 5000, 5);
        for (int issuer = 1; issuer < 8; issuer++) {
            herd.addIssuer(issuer - 1, 0, 5000, 5);
        }
        Check.same("21 a root", herd.chains(0), 1);
        Check.same("21 a line", herd.chains(7), 1);
        for (int issuer = 7; issuer > 1; issuer--) {
            herd.cross(issuer, issuer - 2);
        }
        Check.same("21 two", herd.chains(2), 2);
        Check.same("21 three", herd.chains(3), 3);
        Check.same("21 as many as ways", herd.chains(7), 21);
        herd.distrust(0, 0);
        Check.same("21 distrusted ones, too", herd.chains(7), 21);
        Check.fails("21 no issuer", Check.INDEX, () -> herd.chains(8));
        Check.fails("21 below", Check.INDEX, () -> herd.chains(-1));
    }

    /** Promise 22. */
    private static void isCovered() {
        CertHerd herd = new CertHerd();
        herd.addIssuer(NONE, 0, 8, 5);
        herd.addIssuer(NONE, 0, 5000, 5);
        herd.pass(2);
        herd.issue(0, 3, 10);
        herd.issue(1, 17, 3);
        Check.same("22 ahead", herd.isCovered(3, 1), false);
        Check.same("22 first day", herd.isCovered(3, 2), true);
        Check.same("22 while the issuer is good", herd.isCovered(3, 8), true);
        Check.same("22 not longer", herd.isCovered(3, 9), false);
        Check.same("22 below the zone", herd.isCovered(3, 4) && !herd.isCovered(2, 4), true);
        Check.same("22 zone", herd.isCovered(4, 2) && herd.isCovered(7, 4), true);
        Check.same("22 behind the last day", herd.isCovered(4, 5), false);
        Check.same("22 above the zone", herd.isCovered(8, 4), false);
        herd.distrust(1, 3);
        Check.same("22 distrusted", herd.isCovered(4, 3), false);
        Check.same("22 ahead of it", herd.isCovered(4, 2), true);
        Check.fails("22 name above", Check.INDEX, () -> herd.isCovered(16, 0));
        Check.fails("22 name ahead of day", Check.INDEX, () -> herd.isCovered(-1, 5001));
        Check.fails("22 day below", Check.ARGUMENT, () -> herd.isCovered(0, -1));
        Check.fails("22 day above", Check.ARGUMENT, () -> herd.isCovered(0, 5001));
        Check.same("22 the last day there is", herd.isCovered(0, 5000), false);
    }

    /** Promise 23. */
    private static void nextGap() {
        CertHerd herd = withRoot(50);
        herd.addIssuer(NONE, 0, 14, 50);
        herd.pass(3);
        herd.issue(0, 0, 5);
        herd.issue(1, 16, 100);
        Check.same("23 at once", herd.nextGap(0, 0), 0);
        Check.same("23 the day ahead", herd.nextGap(0, 2), 2);
        Check.same("23 two in a row", herd.nextGap(0, 3), 15);
        Check.same("23 from inside", herd.nextGap(0, 14), 15);
        Check.same("23 from the gap itself", herd.nextGap(0, 15), 15);
        Check.same("23 up to 5000", herd.nextGap(0, 5000), 5000);
        herd.distrust(1, 5);
        Check.same("23 distrusted", herd.nextGap(0, 3), 8);
        Check.same("23 for the zone", herd.nextGap(1, 3), 5);
        herd.distrust(0, 5);
        Check.same("23 both", herd.nextGap(0, 3), 5);
        Check.fails("23 name above", Check.INDEX, () -> herd.nextGap(16, 0));
        Check.fails("23 name ahead of day", Check.INDEX, () -> herd.nextGap(-1, -1));
        Check.fails("23 day below", Check.ARGUMENT, () -> herd.nextGap(0, -1));
        Check.fails("23 day above", Check.ARGUMENT, () -> herd.nextGap(0, 5001));
    }

    /** Promise 24. */
    private static void covered() {
        CertHerd herd = withRoot(50);
        herd.issue(0, 0, 3);
        herd.issue(0, 15, 2);
        herd.issue(0, 17, 1);
        herd.issue(0, 5, 3);
        Check.same("24 all", herd.covered(0), 0x80F1);
        Check.same("24 next day", herd.covered(1), 0x8021);
        Check.same("24 last day", herd.covered(2), 0x21);
        Check.same("24 none", herd.covered(3), 0);
        Check.same("24 on 5000", herd.covered(5000), 0);
        for (int zone = 16; zone < 20; zone++) {
            herd.issue(0, zone, 400);
        }
        Check.same("24 all names", herd.covered(399), 0xFFFF);
        herd.distrust(0, 399);
        Check.same("24 distrusted", herd.covered(399), 0);
        Check.fails("24 day below", Check.ARGUMENT, () -> herd.covered(-1));
        Check.fails("24 day above", Check.ARGUMENT, () -> herd.covered(5001));
    }

    /** Three roots, the issuer 3 signed by the first two; 3 and 2 have issued. */
    private static CertHerd withChains() {
        CertHerd herd = new CertHerd();
        herd.addIssuer(NONE, 0, 20, 5);
        herd.addIssuer(NONE, 5, 5000, 5);
        herd.addIssuer(NONE, 0, 5000, 5);
        herd.addIssuer(0, 0, 5000, 5);
        herd.cross(3, 1);
        herd.issue(3, 16, 40);
        herd.issue(2, 0, 40);
        herd.issue(2, 8, 10);
        herd.issue(2, 9, 10);
        herd.issue(2, 10, 10);
        return herd;
    }

    /** Promise 25. */
    private static void breaks() {
        CertHerd herd = withChains();
        Check.same("25 its one chain", herd.breaks(0, 4), 0xE);
        Check.same("25 another chain holds", herd.breaks(0, 5), 0);
        Check.same("25 nor is this one needed", herd.breaks(1, 5), 0);
        Check.same("25 until the other has ended", herd.breaks(1, 20), 0);
        Check.same("25 then it is", herd.breaks(1, 21), 0xE);
        Check.same("25 what it has issued", herd.breaks(3, 5), 0xE);
        Check.same("25 covered otherwise, too", herd.breaks(2, 9), 0x700);
        Check.same("25 nothing left", herd.breaks(2, 10), 0);
        herd.distrust(3, 8);
        Check.same("25 now needed", herd.breaks(2, 8), 0x701);
        Check.same("25 not covered as it is", herd.breaks(3, 8), 0);
        herd.distrust(2, 0);
        Check.same("25 distrusted as it is", herd.breaks(2, 0), 0);
        Check.same("25 changes nothing", herd.distrust(3, 8), 8);
        Check.fails("25 no issuer", Check.INDEX, () -> herd.breaks(4, 0));
        Check.fails("25 issuer ahead of day", Check.INDEX, () -> herd.breaks(-1, 5001));
        Check.fails("25 day below", Check.ARGUMENT, () -> herd.breaks(0, -1));
        Check.fails("25 day above", Check.ARGUMENT, () -> herd.breaks(0, 5001));
    }

    /** Promise 26. */
    private static void weakest() {
        CertHerd herd = withChains();
        Check.same("26 the lowest of three", herd.weakest(4), 0);
        Check.same("26 the lowest of two", herd.weakest(5), 2);
        Check.same("26 most", herd.weakest(21), 1);
        herd.distrust(3, 0);
        Check.same("26 the one left", herd.weakest(4), 2);
        Check.same("26 none", herd.weakest(40), NONE);
        Check.same("26 none on 5000", herd.weakest(5000), NONE);
        herd.distrust(3, NONE);
        herd.issue(2, 11, 5);
        Check.same("26 more than the lower ones", herd.weakest(4), 2);
        CertHerd single = withRoot(5);
        Check.same("26 nothing covered", single.weakest(0), NONE);
        single.issue(0, 3, 1);
        Check.same("26 one name is enough", single.weakest(0), 0);
        Check.fails("26 day below", Check.ARGUMENT, () -> herd.weakest(-1));
        Check.fails("26 day above", Check.ARGUMENT, () -> herd.weakest(5001));
    }
}
