/** What the document says ahead of the promises: for each of its sentences a test at the edges that it names. */
public final class TermsTest {
    private static final int NONE = CertHerd.NONE;
    private static final int MIN = Integer.MIN_VALUE;
    private static final int MAX = Integer.MAX_VALUE;

    public static void main(String[] args) {
        Sentence.test(
                TermsTest::calls, TermsTest::days, TermsTest::weeks, TermsTest::names, TermsTest::subjects,
                TermsTest::issuerNumbers, TermsTest::issuerParts, TermsTest::signers, TermsTest::chain,
                TermsTest::chainLasts, TermsTest::chainHolds, TermsTest::good, TermsTest::certificateNumbers,
                TermsTest::valid, TermsTest::coveredName, TermsTest::offsets, TermsTest::due,
                TermsTest::renewedOnce, TermsTest::pins, TermsTest::mayIssue, TermsTest::canIssue,
                TermsTest::dayGrowsFirst, TermsTest::notLookedAt, TermsTest::exceptionKinds,
                TermsTest::exceptionOrder, TermsTest::changesNothing, TermsTest::none);
        Sentence.end("What it is", "Terms");
    }

    private static void terms(String promises, String words) {
        Sentence.ahead("Terms", promises, words);
    }

    private static void calls() {
        Sentence.ahead("What it is", "7, 24",
                "An object is used for at most 512 calls after it has been made; what later calls answer is free.");
        CertHerd herd = States.root(50);
        for (int call = 2; call <= 510; call++) {
            herd.covered(call);
        }
        Check.same("the 511th call", herd.issue(0, 7, 400), 0);
        Check.same("the 512th call", herd.covered(399), 0x80);
    }

    private static void days() {
        terms("9", "Days are numbered from 0; today is the day 0 at first.");
        CertHerd herd = States.root(50);
        Check.same("at first", new CertHerd().today(), 0);
        Check.same("a root's first day", herd.isGood(0, 0), true);
        Check.same("a certificate of the first day", herd.lastDay(herd.issue(0, 0, 1)), 0);
        Check.same("is valid on it", herd.isCovered(0, 0), true);
        herd.pass(1);
        Check.same("then", herd.today(), 1);
        Refused.in(() -> States.root(5), "no day -1", Check.ARGUMENT, h -> h.isGood(0, -1));
    }

    private static void weeks() {
        terms("7, 8, 18", "A week has 7 days; the week of a day is the day divided by 7, rounded down.");
        for (int week : new int[] {0, 1, 2, 427}) {
            CertHerd herd = States.root(1);
            States.passTo(herd, week * 7);
            herd.issue(0, 0, 1);
            Check.same("room on the first day of " + week, herd.room(0), 0);
            States.passTo(herd, week * 7 + 6);
            Check.same("room on the last day of " + week, herd.room(0), 0);
            Check.fails("another on the last day of " + week, Check.STATE, () -> herd.issue(0, 0, 1));
            herd.pass(1);
            Check.same("room on the day behind " + week, herd.room(0), 1);
            Check.same("another on the day behind " + week, herd.issue(0, 0, 1), 1);
        }
        CertHerd late = States.root(1);
        States.passTo(late, 6);
        late.issue(0, 0, 1);
        late.pass(1);
        Check.same("a week begins on its own day, not on that of the first certificate", late.room(0), 1);
    }

    private static void names() {
        terms("5, 7, 22, 24", "There are 16 names, 0 to 15; the zone of a name is the name divided by 4,"
                + " rounded down, 0 to 3.");
        int[] namesOfZone = {0x000F, 0x00F0, 0x0F00, 0xF000};
        for (int zone = 0; zone < 4; zone++) {
            CertHerd herd = States.root(50);
            herd.issue(0, 16 + zone, 1);
            Check.same("names of the zone " + zone, herd.covered(0), namesOfZone[zone]);
            for (int name = 0; name < 16; name++) {
                boolean inZone = name >= 4 * zone && name <= 4 * zone + 3;
                Check.same("name " + name + " of the zone " + zone, herd.isCovered(name, 0), inZone);
            }
        }
        Check.same("the first name", new CertHerd().pin(0, 1), 0);
        Check.same("the last name", new CertHerd().pin(15, 1), 0);
        Refused.inAll("name -1", Check.INDEX, h -> h.pin(-1, 1));
        Refused.inAll("name 16", Check.INDEX, h -> h.pin(16, 1));
    }

    private static void subjects() {
        terms("7, 22, 24", "A subject is a name, 0 to 15, or a zone, told as 16 and its number, added, 16 to 19;"
                + " a zone covers all its names.");
        int[] covers = {
            0x0001, 0x0002, 0x0004, 0x0008, 0x0010, 0x0020, 0x0040, 0x0080, 0x0100, 0x0200,
            0x0400, 0x0800, 0x1000, 0x2000, 0x4000, 0x8000, 0x000F, 0x00F0, 0x0F00, 0xF000};
        for (int subject = 0; subject < 20; subject++) {
            CertHerd herd = States.root(1);
            Check.same("subject " + subject, herd.issue(0, subject, 1), 0);
            Check.same("subject " + subject + " covers", herd.covered(0), covers[subject]);
        }
        Refused.in(() -> States.root(1), "subject -1", Check.ARGUMENT, h -> h.issue(0, -1, 1));
        Refused.in(() -> States.root(1), "subject 20", Check.ARGUMENT, h -> h.issue(0, 20, 1));
    }

    private static void issuerNumbers() {
        terms("2, 10", "Issuers are numbered from 0, at most 8.");
        CertHerd herd = new CertHerd();
        Check.same("none", herd.issuers(), 0);
        for (int issuer = 0; issuer < 8; issuer++) {
            Check.same("number", herd.addIssuer(issuer - 1, 0, 5000, 1), issuer);
            Check.same("count", herd.issuers(), issuer + 1);
        }
        Check.same("the last one is there", herd.isGood(7, 0), true);
        Refused.in(States::eightIssuers, "a ninth root", Check.STATE, h -> h.addIssuer(NONE, 0, 1, 1));
        Refused.in(States::eightIssuers, "a ninth that is signed", Check.STATE, h -> h.addIssuer(7, 0, 1, 1));
    }

    private static void issuerParts() {
        terms("2, 4, 18, 19", "An issuer has a first and a last day, a limit for each week,"
                + " and perhaps a day from which on it is distrusted.");
        CertHerd herd = new CertHerd();
        herd.addIssuer(NONE, 10, 20, 2);
        herd.addIssuer(NONE, 20, 30, 3);
        Check.same("ahead of the first day", herd.isGood(0, 9), false);
        Check.same("first day", herd.isGood(0, 10), true);
        Check.same("last day", herd.isGood(0, 20), true);
        Check.same("behind the last day", herd.isGood(0, 21), false);
        Check.same("each has days of its own", herd.isGood(1, 19), false);
        Check.same("each has a limit of its own", herd.room(0) * 10 + herd.room(1), 23);
        Check.same("no day of distrust at first", herd.distrust(0, 15), NONE);
        Check.same("ahead of the distrust", herd.isGood(0, 14), true);
        Check.same("from the day of distrust", herd.isGood(0, 15), false);
        Check.same("and on", herd.isGood(0, 20), false);
        Check.same("each has a distrust of its own", herd.isGood(1, 20), true);
        herd.pass(7);
        Check.same("the limit is for each week", herd.room(0) * 10 + herd.room(1), 23);
    }

    /** Three roots, 3 signed by one, 4 signed by two. */
    private static CertHerd signed() {
        CertHerd herd = new CertHerd();
        herd.addIssuer(NONE, 0, 10, 1);
        herd.addIssuer(NONE, 0, 20, 1);
        herd.addIssuer(NONE, 0, 30, 1);
        herd.addIssuer(0, 0, 40, 1);
        herd.addIssuer(3, 0, 50, 1);
        herd.cross(4, 1);
        return herd;
    }

    private static void signers() {
        terms("2, 3, 20, 21", "It is a root, or is signed by one or two issuers with lower numbers.");
        CertHerd herd = signed();
        Check.same("a root's end", herd.chainEnd(2), 30);
        Check.same("one signer's end", herd.chainEnd(3), 10);
        Check.same("two signers' end", herd.chainEnd(4), 20);
        Check.same("a second one, next below", herd.cross(3, 2), 30);
        Check.same("a second one shows above", herd.chains(4), 3);
        Refused.in(TermsTest::signed, "a root stays one", Check.STATE, h -> h.cross(2, 0));
        Refused.in(TermsTest::signed, "no third one", Check.STATE, h -> h.cross(4, 2));
        Refused.in(TermsTest::signed, "not itself", Check.ARGUMENT, h -> h.cross(3, 3));
        Refused.in(TermsTest::signed, "not a higher one", Check.ARGUMENT, h -> h.cross(3, 4));
        Refused.in(TermsTest::signed, "not itself at first", Check.INDEX, h -> h.addIssuer(5, 0, 1, 1));
    }

    private static void chain() {
        terms("3, 21", "A chain of an issuer goes from it to one of those that have signed it, and so on,"
                + " up to a root.");
        CertHerd herd = new CertHerd();
        herd.addIssuer(NONE, 0, 5000, 1);
        Check.same("a root alone", herd.chains(0), 1);
        herd.addIssuer(0, 0, 5000, 1);
        Check.same("one way", herd.chains(1), 1);
        herd.addIssuer(0, 0, 5000, 1);
        herd.addIssuer(1, 0, 5000, 1);
        herd.cross(3, 2);
        Check.same("two ways to one root", herd.chains(3), 2);
        herd.addIssuer(3, 0, 5000, 1);
        herd.cross(4, 0);
        Check.same("two ways, and straight to the root", herd.chains(4), 3);
        herd.distrust(1, 0);
        Check.same("the way by 2", herd.isGood(3, 0), true);
        herd.distrust(2, 0);
        Check.same("no way past both", herd.isGood(3, 0), false);
        Check.same("the way straight to the root", herd.isGood(4, 0), true);
        herd.distrust(0, 0);
        Check.same("no way ends ahead of a root", herd.isGood(4, 0), false);
    }

    private static void chainLasts() {
        terms("3, 20", "It lasts until the least of the last days of all issuers in it.");
        int[][] ends = {{100, 200, 300}, {200, 100, 300}, {300, 200, 100}, {100, 100, 100}, {0, 5000, 5000}};
        for (int[] end : ends) {
            CertHerd herd = new CertHerd();
            herd.addIssuer(NONE, 0, end[0], 1);
            herd.addIssuer(0, 0, end[1], 1);
            herd.addIssuer(1, 0, end[2], 1);
            int least = Math.min(end[0], Math.min(end[1], end[2]));
            Check.same("chain of " + end[0] + " " + end[1] + " " + end[2], herd.chainEnd(2), least);
            Check.same("good until then", herd.isGood(2, least), true);
            Check.same("and not longer", herd.isGood(2, least + 1), false);
        }
        CertHerd two = new CertHerd();
        two.addIssuer(NONE, 0, 50, 1);
        two.addIssuer(NONE, 0, 5000, 1);
        two.addIssuer(0, 0, 5000, 1);
        two.addIssuer(1, 0, 70, 1);
        two.addIssuer(2, 0, 5000, 1);
        two.cross(4, 3);
        Check.same("the issuers of one chain don't end another", two.chainEnd(4), 70);
    }

    private static void chainHolds() {
        terms("7, 19", "A chain holds on a day if the day is from the first to the last day of each issuer in it,"
                + " and none of these is distrusted on it.");
        for (int place = 0; place < 3; place++) {
            CertHerd herd = new CertHerd();
            for (int issuer = 0; issuer < 3; issuer++) {
                boolean shorter = issuer == place;
                herd.addIssuer(issuer - 1, shorter ? 10 : 0, shorter ? 30 : 5000, 1);
            }
            Check.same("ahead of the first day of " + place, herd.isGood(2, 9), false);
            Check.same("on the first day of " + place, herd.isGood(2, 10), true);
            Check.same("on the last day of " + place, herd.isGood(2, 30), true);
            Check.same("behind the last day of " + place, herd.isGood(2, 31), false);
            herd.distrust(place, 20);
            Check.same("ahead of the distrust of " + place, herd.isGood(2, 19), true);
            Check.same("on the day of distrust of " + place, herd.isGood(2, 20), false);
            Check.same("behind the day of distrust of " + place, herd.isGood(2, 30), false);
        }
        CertHerd apart = new CertHerd();
        apart.addIssuer(NONE, 0, 10, 1);
        apart.addIssuer(0, 11, 20, 1);
        Check.same("days that don't meet, the last of one", apart.isGood(1, 10), false);
        Check.same("days that don't meet, the first of the other", apart.isGood(1, 11), false);
    }

    private static void good() {
        terms("7, 19", "An issuer is good on a day if some chain of it holds.");
        CertHerd herd = new CertHerd();
        herd.addIssuer(NONE, 0, 10, 1);
        herd.addIssuer(NONE, 10, 20, 1);
        herd.addIssuer(0, 0, 5000, 1);
        herd.cross(2, 1);
        Check.same("the first alone", herd.isGood(2, 9), true);
        Check.same("both", herd.isGood(2, 10), true);
        Check.same("the second alone", herd.isGood(2, 11), true);
        Check.same("until the second ends", herd.isGood(2, 20), true);
        Check.same("neither", herd.isGood(2, 21), false);
        herd.distrust(2, 5);
        Check.same("distrusted itself", herd.isGood(2, 9), false);
        CertHerd mixed = new CertHerd();
        mixed.addIssuer(NONE, 0, 10, 1);
        mixed.addIssuer(NONE, 0, 5000, 1);
        mixed.addIssuer(0, 0, 5000, 1);
        mixed.addIssuer(1, 0, 10, 1);
        mixed.addIssuer(2, 0, 5000, 1);
        mixed.cross(4, 3);
        Check.same("each of the two chains is broken elsewhere", mixed.isGood(4, 11), false);
    }

    private static void certificateNumbers() {
        terms("7, 8, 11", "Certificates are numbered from 0, at most 60; a certificate has a subject, an issuer,"
                + " a first day, a length, and an offset; its last day is the first one and the length, added,"
                + " less 1.");
        CertHerd herd = new CertHerd();
        herd.addIssuer(NONE, 0, 5000, 50);
        herd.addIssuer(NONE, 0, 5000, 50);
        Check.same("none", herd.certificates(), 0);
        for (int number = 0; number < 60; number++) {
            Check.same("number", herd.issue(number % 2, 0, 9), number);
            Check.same("count", herd.certificates(), number + 1);
        }
        Check.same("the last one's issuer", herd.issuerOf(59), 1);
        Check.same("the last one's end", herd.lastDay(59), 8);
        Refused.in(States::sixtyCertificates, "a 61st", Check.STATE, h -> h.issue(0, 0, 1));
        Refused.in(States::sixtyCertificates, "no number 60", Check.INDEX, h -> h.issuerOf(60));
        CertHerd renewing = States.certificates(59);
        renewing.pass(4);
        Check.same("renewing ends at 60, too", renewing.certificates(), 60);
        lastDayOfCertificate();
    }

    private static void lastDayOfCertificate() {
        int[][] rows = {{0, 1, 0}, {0, 2, 1}, {0, 400, 399}, {7, 1, 7}, {3000, 1, 3000}, {3000, 400, 3399}};
        for (int[] row : rows) {
            CertHerd herd = States.root(50);
            States.passTo(herd, row[0]);
            Check.same("from " + row[0] + " of " + row[1], herd.lastDay(herd.issue(0, 0, row[1])), row[2]);
            Check.same("covered on it", herd.isCovered(0, row[2]), true);
            Check.same("not behind it", herd.isCovered(0, row[2] + 1), false);
        }
    }

    private static void valid() {
        terms("22", "It is valid on a day if the day is from the first to the last one, and its issuer is good"
                + " on that day.");
        CertHerd herd = new CertHerd();
        herd.addIssuer(NONE, 0, 5000, 5);
        herd.addIssuer(0, 0, 5000, 5);
        herd.pass(10);
        herd.issue(1, 3, 11);
        Check.same("ahead of the first day", herd.isCovered(3, 9), false);
        Check.same("first day", herd.isCovered(3, 10), true);
        Check.same("last day", herd.isCovered(3, 20), true);
        Check.same("behind the last day", herd.isCovered(3, 21), false);
        herd.distrust(0, 15);
        Check.same("the issuer is good", herd.isCovered(3, 14), true);
        Check.same("the issuer is not good", herd.isCovered(3, 15), false);
        herd.distrust(0, NONE);
        Check.same("the issuer is good again", herd.isCovered(3, 15), true);
        CertHerd ending = new CertHerd();
        ending.addIssuer(NONE, 0, 4, 5);
        ending.issue(0, 3, 400);
        Check.same("on the issuer's last day", ending.isCovered(3, 4), true);
        Check.same("behind the issuer's last day", ending.isCovered(3, 5), false);
        CertHerd renewed = States.root(50);
        renewed.issue(0, 3, 5);
        renewed.pass(3);
        Check.same("renewed, on the days ahead of that", renewed.covered(0) + renewed.covered(2), 16);
    }

    private static void coveredName() {
        terms("22, 24", "A name is covered on a day if a certificate for it, or for its zone, is valid then.");
        CertHerd herd = States.root(50);
        herd.issue(0, 4, 2);
        herd.issue(0, 17, 3);
        herd.issue(0, 7, 4);
        Check.same("by name, by zone, and by both", herd.covered(1), 0x00F0);
        Check.same("by zone alone", herd.isCovered(4, 2), true);
        Check.same("by name alone", herd.covered(3), 0x0080);
        Check.same("by neither", herd.covered(4), 0);
        Check.same("next to the zone", herd.isCovered(3, 0) || herd.isCovered(8, 0), false);
    }

    /** The offset of a certificate of a length that is drawn next. */
    private static int offset(CertHerd herd, int length) {
        return herd.dueOn(herd.issue(0, 0, length)) - herd.today() - 2 * length / 3;
    }

    private static int offsetOf(int seed, int length) {
        CertHerd herd = States.root(1);
        herd.setSeed(seed);
        return offset(herd, length);
    }

    private static void offsets() {
        terms("6, 7, 14", "Offsets are drawn: the seed, an int, is 1 at first; to draw, the seed becomes the seed"
                + " times 1103515245, and 12345 added, as an int; the offset is the seed shifted right by 16"
                + " without sign, modulo (the length divided by 6, rounded down, and 1 added).");
        CertHerd herd = States.root(50);
        int seed = 1;
        for (int draw = 0; draw < 50; draw++) {
            seed = Seeds.next(seed);
            Check.same("draw " + draw, offset(herd, 400), Seeds.upper(seed) % 67);
        }
        Check.same("the first draw told as a number", offset(States.root(1), 400), 21);
        CertHerd shorts = States.root(50);
        for (int length = 1; length <= 5; length++) {
            shorts.setSeed(Seeds.drawing(0));
            shorts.issue(0, 0, length);
            Check.same("drawn for " + length + ", too", offset(shorts, 400), Seeds.upper(Seeds.next(0)) % 67);
            shorts.setSeed(1);
            shorts.issue(0, 0, length);
            Check.same("drawn once for " + length, offset(shorts, 400), Seeds.upper(Seeds.next(Seeds.next(1))) % 67);
        }
        offsetWrapsAround();
        offsetModulo();
    }

    private static void offsetWrapsAround() {
        int[] seeds = {0, 1, 2, 3, -1, -2, 65535, 65536, MAX, MAX - 1, MIN, MIN + 1, 0x55555555, 1103515245};
        for (int seed : seeds) {
            Check.same("drawn of " + seed, offsetOf(seed, 400), Seeds.upper(Seeds.next(seed)) % 67);
        }
        Check.same("a seed of all bits is shifted without sign", offsetOf(Seeds.ahead(-1), 400), 65535 % 67);
        Check.same("the least seed is shifted without sign", offsetOf(Seeds.ahead(MIN), 400), 32768 % 67);
        Check.same("the greatest seed", offsetOf(Seeds.ahead(MAX), 400), 32767 % 67);
        Check.same("the seed 0", offsetOf(Seeds.drawing(0), 400), 0);
        Check.same("the last 16 bits fall away", offsetOf(Seeds.ahead(65535), 400), 0);
        Check.same("the bit above them stays", offsetOf(Seeds.ahead(65536), 400), 1);
    }

    private static void offsetModulo() {
        for (int length = 1; length <= 5; length++) {
            Check.same("no offset for " + length, offsetOf(Seeds.ahead(-1), length), 0);
        }
        for (int length = 6; length <= 400; length++) {
            int modulus = length / 6 + 1;
            Check.same("as drawn, for " + length, offsetOf(Seeds.ahead(-1), length), 65535 % modulus);
            Check.same("greatest for " + length, offsetOf(Seeds.drawing(modulus - 1), length), modulus - 1);
            Check.same("0 again for " + length, offsetOf(Seeds.drawing(modulus), length), 0);
        }
    }

    private static void due() {
        terms("14, 16", "A certificate is due from its first day, two thirds of its length, rounded down,"
                + " and its offset, added, on.");
        int[][] twoThirds = {
            {1, 0}, {2, 1}, {3, 2}, {4, 2}, {5, 3}, {6, 4}, {7, 4}, {8, 5}, {9, 6}, {398, 265}, {399, 266}, {400, 266}};
        for (int[] row : twoThirds) {
            CertHerd herd = States.root(50);
            herd.setSeed(Seeds.drawing(0));
            Check.same("two thirds of " + row[0], herd.dueOn(herd.issue(0, 0, row[0])), row[1]);
        }
        CertHerd herd = States.root(50);
        herd.pass(50);
        herd.setSeed(Seeds.drawing(66));
        Check.same("first day, two thirds, and offset", herd.dueOn(herd.issue(0, 0, 400)), 50 + 266 + 66);
        herd.distrust(0, 50);
        States.passTo(herd, 381);
        Check.same("the day ahead", herd.waiting(), 0);
        herd.pass(1);
        Check.same("on the day", herd.waiting(), 1);
        States.passTo(herd, 449);
        Check.same("and on", herd.waiting(), 1);
    }

    private static void renewedOnce() {
        terms("8, 15", "It is renewed once at most; what comes by renewing is a certificate with the same subject,"
                + " issuer and length, from that day on, with an offset drawn then.");
        CertHerd herd = States.root(50);
        herd.issue(0, 0, 5);
        Check.same("ahead of the day", herd.pass(2), 0);
        Check.same("on the day", herd.pass(1), 1);
        Check.same("not again on its last day", herd.pass(1), 0);
        Check.same("nor when it has ended", herd.pass(1), 0);
        Check.same("renewed by", herd.renewal(0), 1);
        Check.same("the renewed one in its turn", herd.pass(1), 1);
        Check.same("renewed by, as before", herd.renewal(0), 1);
        Check.same("the renewed one by", herd.renewal(1), 2);
        renewedAlike();
        renewedFromThatDayOn();
    }

    private static void renewedAlike() {
        for (int subject : new int[] {0, 15, 16, 19}) {
            CertHerd herd = States.root(50);
            herd.addIssuer(NONE, 0, 5000, 50);
            herd.issue(1, subject, 3);
            int covered = herd.covered(0);
            herd.pass(2);
            Check.same("same issuer", herd.issuerOf(1), 1);
            Check.same("same length", herd.lastDay(1), 4);
            Check.same("same subject " + subject, herd.covered(4), covered);
            Check.same("no longer", herd.covered(5), 0);
        }
    }

    private static void renewedFromThatDayOn() {
        CertHerd herd = States.root(50);
        herd.setSeed(Seeds.drawing(0));
        herd.issue(0, 0, 400);
        herd.setSeed(Seeds.drawing(66));
        herd.pass(100);
        herd.pass(100);
        Check.same("on the day 266", herd.pass(66), 1);
        Check.same("from that day on", herd.lastDay(1), 266 + 399);
        Check.same("an offset drawn then", herd.dueOn(1), 266 + 266 + 66);
        Check.same("the first one keeps its offset", herd.dueOn(0), 266);
        herd.distrust(0, 0);
        herd.setSeed(Seeds.drawing(1));
        herd.pass(100);
        herd.distrust(0, NONE);
        Check.same("nothing is drawn but for a certificate", offset(herd, 400), 1);
        CertHerd waited = States.root(50);
        waited.issue(0, 0, 30);
        waited.distrust(0, 0);
        waited.pass(28);
        waited.distrust(0, NONE);
        Check.same("on its last day, after it waited", waited.pass(1), 1);
        Check.same("from the day of renewing, not that of being due", waited.lastDay(1), 29 + 29);
    }

    private static void pins() {
        terms("5, 7", "Each name has a set of issuers (bit i for the issuer i), or no pins (0, as at first).");
        for (int pinned = 0; pinned < 8; pinned++) {
            CertHerd herd = new CertHerd();
            for (int issuer = 0; issuer < 8; issuer++) {
                herd.addIssuer(NONE, 0, 5000, 5);
            }
            Check.same("no pins at first", herd.pin(3, 1 << pinned), 0);
            for (int issuer = 0; issuer < 8; issuer++) {
                int by = issuer;
                if (issuer == pinned) {
                    Check.same("the bit " + pinned, herd.issue(by, 3, 1), 0);
                } else {
                    Check.fails("the bit " + pinned + " for " + by, Check.STATE, () -> herd.issue(by, 3, 1));
                }
            }
            Check.same("no pins again", herd.pin(3, 0), 1 << pinned);
            Check.same("then any", herd.issue(7 - pinned, 3, 1), 1);
        }
    }

    private static CertHerd pinned(int... pins) {
        CertHerd herd = States.root(50);
        herd.addIssuer(NONE, 0, 5000, 50);
        for (int i = 0; i < pins.length; i++) {
            herd.pin(4 + i, pins[i]);
        }
        return herd;
    }

    private static void mayIssue() {
        terms("7, 8", "An issuer may issue for a subject if each name that this covers has no pins, or pins with"
                + " this issuer.");
        Check.same("no pins", pinned().issue(0, 17, 1), 0);
        Check.same("pins with it on each", pinned(1, 1, 1, 1).issue(0, 17, 1), 0);
        Check.same("on some, none on others", pinned(0, 1, 3, 0).issue(0, 17, 1), 0);
        for (int name = 0; name < 4; name++) {
            int[] pins = {1, 1, 1, 1};
            pins[name] = 2;
            int without = 4 + name;
            Refused.in(() -> pinned(pins), "the zone of " + without, Check.STATE, h -> h.issue(0, 17, 1));
            Refused.in(() -> pinned(pins), "the name " + without, Check.STATE, h -> h.issue(0, without, 1));
            Check.same("for another name", pinned(pins).issue(0, 4 + (name + 1) % 4, 1), 0);
        }
        Check.same("names beside the zone don't count", pinned(2, 2, 2, 2).issue(0, 16, 1), 0);
        Check.same("nor on the other side", pinned(2, 2, 2, 2).issue(0, 18, 1), 0);
        CertHerd renewing = pinned();
        renewing.issue(0, 17, 3);
        renewing.pin(7, 2);
        Check.same("it may not renew then", renewing.pass(2), 0);
        CertHerd allowed = pinned(3, 1, 0, 1);
        allowed.issue(0, 17, 3);
        Check.same("it may renew", allowed.pass(2), 1);
    }

    private static CertHerd herdWith(int from, int limit, int pin, int certificates) {
        CertHerd herd = new CertHerd();
        herd.addIssuer(NONE, 0, 5000, 50);
        herd.addIssuer(NONE, 0, 5000, 50);
        herd.addIssuer(NONE, from, 5000, limit);
        herd.pin(5, pin);
        for (int i = 0; i < certificates; i++) {
            herd.issue(i % 2, 0, 1);
        }
        return herd;
    }

    private static void canIssue() {
        terms("7, 8", "It can issue on a day if it is good on it, may issue for the subject, has issued fewer than"
                + " its limit in the week, and there are fewer than 60 certificates.");
        Check.same("all of it, just so", herdWith(0, 1, 4, 59).issue(2, 5, 1), 59);
        Refused.in(() -> herdWith(1, 1, 4, 59), "not good yet", Check.STATE, h -> h.issue(2, 5, 1));
        Refused.in(() -> herdWith(0, 1, 3, 59), "may not issue", Check.STATE, h -> h.issue(2, 5, 1));
        Refused.in(() -> herdWith(0, 0, 4, 59), "limit reached", Check.STATE, h -> h.issue(2, 5, 1));
        Refused.in(() -> herdWith(0, 1, 4, 60), "60 of them", Check.STATE, h -> h.issue(2, 5, 1));
        CertHerd weekly = States.root(50);
        for (int i = 0; i < 49; i++) {
            weekly.issue(0, 0, 1);
        }
        Check.same("the 50th of a week", weekly.issue(0, 0, 1), 49);
        Check.fails("the 51st of a week", Check.STATE, () -> weekly.issue(0, 0, 1));
        weekly.pass(6);
        Check.fails("the 51st on the week's last day", Check.STATE, () -> weekly.issue(0, 0, 1));
        weekly.pass(1);
        Check.same("the first of the next week", weekly.issue(0, 0, 1), 50);
    }

    private static void dayGrowsFirst() {
        terms("8", "A day passes so: today grows by 1; then the certificates that are due, were not renewed, and"
                + " have not ended (their last day is today or later), by rising last days, of several by rising"
                + " numbers, are renewed if their issuer can issue; the others wait.");
        CertHerd herd = new CertHerd();
        herd.addIssuer(NONE, 0, 1, 50);
        herd.issue(0, 0, 3);
        Check.same("whether it is good counts on the day that has come", herd.pass(2), 0);
        CertHerd week = States.root(1);
        week.pass(5);
        week.issue(0, 0, 3);
        Check.same("the week is that of the day that has come", week.pass(2), 1);
        CertHerd none = States.root(50);
        none.issue(0, 0, 1);
        Check.same("due on its first day, but that is over", none.pass(1), 0);
        CertHerd lastOne = States.root(50);
        lastOne.issue(0, 0, 2);
        Check.same("due on its last day", lastOne.pass(1), 1);
        queueOrder();
        queueIsByLastDays();
        queueEnds();
        others();
    }

    /** Lengths below 6 have no offset: 5 is due on the 4th day, 4 and 3 on the 3rd one, 2 on the 2nd one. */
    private static void queueOrder() {
        CertHerd herd = States.root(50);
        herd.issue(0, 0, 5);
        herd.issue(0, 1, 4);
        herd.issue(0, 2, 5);
        herd.issue(0, 3, 4);
        herd.distrust(0, 0);
        herd.pass(2);
        herd.distrust(0, NONE);
        Check.same("all of them", herd.pass(1), 4);
        Check.same("what ends first", herd.renewal(1), 4);
        Check.same("the higher number of these", herd.renewal(3), 5);
        Check.same("what ends then", herd.renewal(0), 6);
        Check.same("the higher number of those", herd.renewal(2), 7);
        CertHerd drawn = States.root(50);
        drawn.issue(0, 0, 30);
        drawn.distrust(0, 0);
        drawn.pass(1);
        drawn.distrust(0, NONE);
        drawn.issue(0, 1, 28);
        drawn.distrust(0, 0);
        drawn.pass(26);
        drawn.distrust(0, NONE);
        drawn.setSeed(Seeds.drawing(3));
        int second = Seeds.upper(Seeds.next(3 << 16)) % 6;
        Check.same("two wait", drawn.pass(1), 2);
        Check.same("drawn first for what ends first", drawn.dueOn(drawn.renewal(1)), 28 + 18 + 3);
        Check.same("drawn then for the other", drawn.dueOn(drawn.renewal(0)), 28 + 20 + second);
    }

    /** The first is due on the day 20 and ends on 29; the second is due on the day 21 and ends on 24. */
    private static CertHerd dueFirstEndsLast() {
        CertHerd herd = States.root(50);
        herd.setSeed(Seeds.drawing(0));
        herd.issue(0, 0, 30);
        herd.pass(5);
        herd.setSeed(Seeds.drawing(3));
        herd.issue(0, 1, 20);
        herd.distrust(0, 6);
        States.passTo(herd, 21);
        herd.distrust(0, NONE);
        return herd;
    }

    private static void queueIsByLastDays() {
        CertHerd herd = dueFirstEndsLast();
        Check.same("due first", herd.dueOn(0) * 100 + herd.dueOn(1), 2021);
        Check.same("ends last", herd.lastDay(0) * 100 + herd.lastDay(1), 2924);
        Check.same("at the first place", herd.waitingAt(0), 1);
        Check.same("both", herd.pass(1), 2);
        Check.same("what ends first comes first, whatever it is due on", herd.renewal(1), 2);
        Check.same("what is due first comes then", herd.renewal(0), 3);
    }

    private static void queueEnds() {
        CertHerd herd = new CertHerd();
        herd.addIssuer(NONE, 0, 5000, 50);
        herd.issue(0, 0, 9);
        herd.distrust(0, 1);
        herd.pass(7);
        herd.distrust(0, NONE);
        Check.same("its last day is today", herd.pass(1), 1);
        CertHerd late = new CertHerd();
        late.addIssuer(NONE, 0, 5000, 50);
        late.issue(0, 0, 9);
        late.distrust(0, 1);
        late.pass(8);
        Check.same("it waits on its last day", late.waiting(), 1);
        late.distrust(0, NONE);
        Check.same("its last day was yesterday", late.pass(1), 0);
        Check.same("it will not be renewed", late.renewal(0), NONE);
        Check.same("nor does it wait", late.waiting(), 0);
    }

    private static void others() {
        CertHerd herd = States.root(4);
        herd.addIssuer(NONE, 0, 5000, 50);
        herd.issue(0, 0, 5);
        herd.issue(0, 1, 5);
        herd.issue(0, 2, 4);
        herd.issue(1, 3, 5);
        Check.same("the limit lets one through on the day 2", herd.pass(2), 1);
        Check.same("two others wait on the day 3, another issuer's does not", herd.pass(1), 1);
        Check.same("how many wait", herd.waiting(), 2);
        Check.same("which one of another issuer came", herd.issuerOf(5), 1);
        Check.same("they wait again", herd.pass(1), 0);
        Check.same("until they have ended", herd.pass(1) + herd.renewal(0) + herd.renewal(1), -2);
        CertHerd next = States.root(1);
        next.issue(0, 0, 9);
        Check.same("the limit of the week, and the next week", next.pass(6) * 10 + next.pass(1), 1);
    }

    private static void notLookedAt() {
        terms("8", "Those that come by renewing on this day are not looked at on it.");
        CertHerd herd = States.root(50);
        herd.issue(0, 0, 2);
        Check.same("one comes, and none of it on the same day", herd.pass(1), 1);
        Check.same("it is not due yet", herd.waiting(), 0);
        Check.same("one a day", herd.pass(3), 3);
        Check.same("as many as days, and the first one", herd.certificates(), 5);
    }

    private static void exceptionKinds() {
        terms("2 to 26", "An IndexOutOfBoundsException is thrown if there is no such issuer, certificate, name or"
                + " place, an IllegalArgumentException if another argument is out of its range,"
                + " an IllegalStateException as told.");
        Refused.inAll("no such issuer", Check.INDEX, h -> h.room(h.issuers()));
        Refused.inAll("no such certificate", Check.INDEX, h -> h.lastDay(h.certificates()));
        Refused.inAll("no such name", Check.INDEX, h -> h.isCovered(16, 0));
        Refused.inAll("no such place", Check.INDEX, h -> h.waitingAt(h.waiting()));
        Refused.inAll("another argument", Check.ARGUMENT, h -> h.covered(5001));
        Refused.in(States::eightIssuers, "as told", Check.STATE, h -> h.addIssuer(NONE, 0, 0, 0));
    }

    private static void exceptionOrder() {
        terms("2, 3, 7, 8", "If several exceptions of a throws clause apply, the one that is listed first is thrown.");
        Refused.in(States::eightIssuers, "all three", Check.INDEX, h -> h.addIssuer(8, -1, 0, 0));
        Refused.in(States::eightIssuers, "the last two", Check.ARGUMENT, h -> h.addIssuer(7, -1, 0, 0));
        Refused.in(States::eightIssuers, "the last one", Check.STATE, h -> h.addIssuer(7, 0, 0, 0));
        Refused.in(States::sixtyCertificates, "all three", Check.INDEX, h -> h.issue(2, 20, 0));
        Refused.in(States::sixtyCertificates, "the last two", Check.ARGUMENT, h -> h.issue(1, 20, 1));
        Refused.in(States::sixtyCertificates, "the last one", Check.STATE, h -> h.issue(1, 19, 1));
    }

    /** Beside this, each refusal in the tests is held against an object that was not asked (see Refused). */
    private static void changesNothing() {
        terms("2 to 26", "A call that throws an exception changes nothing.");
        CertHerd herd = States.root(1);
        Check.fails("pins", Check.ARGUMENT, () -> herd.pin(0, 256));
        Check.fails("a day of distrust", Check.ARGUMENT, () -> herd.distrust(0, 5001));
        Check.fails("an issuer", Check.ARGUMENT, () -> herd.addIssuer(0, 0, 1, 51));
        Check.fails("days", Check.ARGUMENT, () -> herd.pass(101));
        Check.fails("a certificate", Check.ARGUMENT, () -> herd.issue(0, 0, 401));
        Check.same("pins as before", herd.pin(0, 0), 0);
        Check.same("distrust as before", herd.distrust(0, NONE), NONE);
        Check.same("issuers as before", herd.issuers(), 1);
        Check.same("today as before", herd.today(), 0);
        Check.same("room as before", herd.room(0), 1);
        Check.same("the seed as before", offset(herd, 400), 21);
        Check.fails("the limit", Check.STATE, () -> herd.issue(0, 0, 1));
        herd.pass(7);
        Check.same("the seed as it was left", offset(herd, 400), Seeds.upper(Seeds.next(Seeds.next(1))) % 67);
    }

    private static void none() {
        terms("2, 4, 15, 23, 26", "The constants: `NONE = -1`: There is none.");
        Check.same("NONE", CertHerd.NONE, -1);
        CertHerd herd = new CertHerd();
        Check.same("no signer", herd.addIssuer(-1, 0, 5000, 5), 0);
        Check.same("no day of distrust before", herd.distrust(0, -1), -1);
        herd.issue(0, 0, 5);
        Check.same("not renewed", herd.renewal(0), -1);
        Check.same("no weakest", herd.weakest(5), -1);
    }
}
