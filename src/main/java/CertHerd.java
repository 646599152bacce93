/** Issuers, their chains, the certificates that they issue and renew, and what is covered by these. */
public final class CertHerd {
    public static final int NONE = -1;

    private static final int NAMES = 16;
    private static final int NAMES_OF_ZONE = 4;
    private static final int SUBJECTS = 20;
    private static final int MOST_PINS = 255;
    private static final int LATEST_DAY = 5000;
    private static final int LATEST_TODAY = 3000;
    private static final int DAYS_OF_WEEK = 7;
    private static final int MOST_DAYS_TO_PASS = 100;
    private static final int MOST_LIMIT = 50;
    private static final int LONGEST = 400;
    private static final int FIRST_SEED = 1;

    private final IssuerTable issuerTable;
    private final CertificateTable certificateTable;
    private final int[] pinsOfName;
    private int seedNow;
    private int dayNow;

    public CertHerd() {
        issuerTable = new IssuerTable();
        certificateTable = new CertificateTable();
        pinsOfName = new int[NAMES];
        seedNow = FIRST_SEED;
        dayNow = 0;
    }

    // ---- issuers and settings

    public int addIssuer(int signer, int from, int to, int limit)
            throws IndexOutOfBoundsException, IllegalArgumentException, IllegalStateException {
        if (signer != NONE) {
            checkIssuer(signer);
        }
        checkDay(from);
        checkDay(to);
        if (to < from) {
            throw new IllegalArgumentException("the last day is ahead of the first one");
        }
        if (limit < 0 || limit > MOST_LIMIT) {
            throw new IllegalArgumentException("limit out of range");
        }
        if (issuerTable.isFull()) {
            throw new IllegalStateException("no place for another issuer");
        }
        return issuerTable.append(signer, from, to, limit);
    }

    public int cross(int issuer, int signer)
            throws IndexOutOfBoundsException, IllegalArgumentException, IllegalStateException {
        checkIssuer(issuer);
        checkIssuer(signer);
        if (signer >= issuer) {
            throw new IllegalArgumentException("the signer is not below the issuer");
        }
        if (!issuerTable.canBeSignedAlsoBy(issuer, signer)) {
            throw new IllegalStateException("this issuer can't be signed by that one, too");
        }
        issuerTable.signAlsoBy(issuer, signer);
        return issuerTable.chainEnds[issuer];
    }

    public int distrust(int issuer, int day) throws IndexOutOfBoundsException, IllegalArgumentException {
        checkIssuer(issuer);
        if (day != NONE) {
            checkDay(day);
        }
        int before = issuerTable.distrustDays[issuer];
        issuerTable.distrustDays[issuer] = day;
        return before;
    }

    public int pin(int name, int pins) throws IndexOutOfBoundsException, IllegalArgumentException {
        checkName(name);
        if (pins < 0 || pins > MOST_PINS) {
            throw new IllegalArgumentException("pins out of range");
        }
        int before = pinsOfName[name];
        pinsOfName[name] = pins;
        return before;
    }

    public void setSeed(int seed) {
        seedNow = seed;
    }

    // ---- certificates

    public int issue(int issuer, int subject, int length)
            throws IndexOutOfBoundsException, IllegalArgumentException, IllegalStateException {
        checkIssuer(issuer);
        if (subject < 0 || subject >= SUBJECTS) {
            throw new IllegalArgumentException("subject out of range");
        }
        if (length < 1 || length > LONGEST) {
            throw new IllegalArgumentException("length out of range");
        }
        if (!canIssue(issuer, subject)) {
            throw new IllegalStateException("the issuer can't issue");
        }
        return makeCertificate(issuer, subject, length);
    }

    public int pass(int days) throws IllegalArgumentException, IllegalStateException {
        if (days < 1 || days > MOST_DAYS_TO_PASS) {
            throw new IllegalArgumentException("days out of range");
        }
        if (dayNow + days > LATEST_TODAY) {
            throw new IllegalStateException("today would be too late");
        }
        int renewed = 0;
        for (int i = 0; i < days; i++) {
            dayNow++;
            renewed += renewDueCertificates();
        }
        return renewed;
    }

    public int today() {
        return dayNow;
    }

    public int issuers() {
        return issuerTable.count;
    }

    public int certificates() {
        return certificateTable.count;
    }

    public int issuerOf(int number) throws IndexOutOfBoundsException {
        checkCertificate(number);
        return certificateTable.issuerNumbers[number];
    }

    public int lastDay(int number) throws IndexOutOfBoundsException {
        checkCertificate(number);
        return certificateTable.endOf(number);
    }

    public int dueOn(int number) throws IndexOutOfBoundsException {
        checkCertificate(number);
        return certificateTable.dueDayOf(number);
    }

    public int renewal(int number) throws IndexOutOfBoundsException {
        checkCertificate(number);
        return certificateTable.renewals[number];
    }

    public int waiting() {
        return certificateTable.fillQueue(dayNow);
    }

    public int waitingAt(int place) throws IndexOutOfBoundsException {
        int size = certificateTable.fillQueue(dayNow);
        if (place < 0 || place >= size) {
            throw new IndexOutOfBoundsException("no such place");
        }
        return certificateTable.queue[place];
    }

    public int room(int issuer) throws IndexOutOfBoundsException {
        checkIssuer(issuer);
        return roomThisWeek(issuer);
    }

    // ---- chains

    public boolean isGood(int issuer, int day) throws IndexOutOfBoundsException, IllegalArgumentException {
        checkIssuer(issuer);
        checkDay(day);
        return contains(issuerTable.goodOn(day, NONE), issuer);
    }

    public int chainEnd(int issuer) throws IndexOutOfBoundsException {
        checkIssuer(issuer);
        return issuerTable.chainEnds[issuer];
    }

    public int chains(int issuer) throws IndexOutOfBoundsException {
        checkIssuer(issuer);
        return issuerTable.chainCounts[issuer];
    }

    // ---- what is covered, by what there is now

    public boolean isCovered(int name, int day) throws IndexOutOfBoundsException, IllegalArgumentException {
        checkName(name);
        checkDay(day);
        return contains(namesCovered(day, NONE), name);
    }

    public int nextGap(int name, int day) throws IndexOutOfBoundsException, IllegalArgumentException {
        checkName(name);
        checkDay(day);
        for (int later = day; later <= LATEST_DAY; later++) {
            if (!contains(namesCovered(later, NONE), name)) {
                return later;
            }
        }
        return NONE;
    }

    public int covered(int day) throws IllegalArgumentException {
        checkDay(day);
        return namesCovered(day, NONE);
    }

    public int breaks(int issuer, int day) throws IndexOutOfBoundsException, IllegalArgumentException {
        checkIssuer(issuer);
        checkDay(day);
        return namesLostWithout(issuer, day);
    }

    public int weakest(int day) throws IllegalArgumentException {
        checkDay(day);
        int found = NONE;
        int most = 0;
        for (int issuer = 0; issuer < issuerTable.count; issuer++) {
            int lost = Integer.bitCount(namesLostWithout(issuer, day));
            if (lost > most) {
                most = lost;
                found = issuer;
            }
        }
        return found;
    }

    // ---- arguments

    private void checkIssuer(int issuer) {
        if (issuer < 0 || issuer >= issuerTable.count) {
            throw new IndexOutOfBoundsException("no such issuer");
        }
    }

    private void checkCertificate(int number) {
        if (number < 0 || number >= certificateTable.count) {
            throw new IndexOutOfBoundsException("no such certificate");
        }
    }

    private static void checkName(int name) {
        if (name < 0 || name >= NAMES) {
            throw new IndexOutOfBoundsException("no such name");
        }
    }

    private static void checkDay(int day) {
        if (day < 0 || day > LATEST_DAY) {
            throw new IllegalArgumentException("day out of range");
        }
    }

    // ---- issuing and renewing

    private boolean canIssue(int issuer, int subject) {
        return !certificateTable.isFull()
                && roomThisWeek(issuer) > 0
                && mayIssueFor(issuer, subject)
                && contains(issuerTable.goodOn(dayNow, NONE), issuer);
    }

    private boolean mayIssueFor(int issuer, int subject) {
        int names = namesOf(subject);
        for (int name = 0; name < NAMES; name++) {
            int pins = pinsOfName[name];
            if (contains(names, name) && pins != 0 && !contains(pins, issuer)) {
                return false;
            }
        }
        return true;
    }

    private int roomThisWeek(int issuer) {
        return issuerTable.limits[issuer] - certificateTable.issuedInWeek(issuer, weekOf(dayNow));
    }

    private int makeCertificate(int issuer, int subject, int length) {
        return certificateTable.append(issuer, subject, dayNow, length, drawOffset(length));
    }

    private int drawOffset(int length) {
        seedNow = seedNow * 1103515245 + 12345;
        return (seedNow >>> 16) % (length / 6 + 1);
    }

    /** The queue is filled ahead of the first renewal, so that what comes today is not looked at today. */
    private int renewDueCertificates() {
        int size = certificateTable.fillQueue(dayNow);
        int renewed = 0;
        for (int place = 0; place < size; place++) {
            int old = certificateTable.queue[place];
            int issuer = certificateTable.issuerNumbers[old];
            int subject = certificateTable.subjects[old];
            if (canIssue(issuer, subject)) {
                certificateTable.renewals[old] = makeCertificate(issuer, subject, certificateTable.lengths[old]);
                renewed++;
            }
        }
        return renewed;
    }

    // ---- covering

    private int namesCovered(int day, int without) {
        return certificateTable.namesHeld(day, issuerTable.goodOn(day, without));
    }

    private int namesLostWithout(int issuer, int day) {
        return namesCovered(day, NONE) & ~namesCovered(day, issuer);
    }

    private static int namesOf(int subject) {
        if (subject < NAMES) {
            return 1 << subject;
        }
        return 0xF << (subject - NAMES) * NAMES_OF_ZONE;
    }

    private static boolean contains(int set, int element) {
        return (set >> element & 1) != 0;
    }

    private static int weekOf(int day) {
        return day / DAYS_OF_WEEK;
    }

    /** The issuers by their numbers. A signer always has a lower number than what it signs. */
    private static final class IssuerTable {
        static final int MOST = 8;

        final int[] firstSigners = new int[MOST];
        final int[] secondSigners = new int[MOST];
        final int[] firstDays = new int[MOST];
        final int[] endDays = new int[MOST];
        final int[] limits = new int[MOST];
        final int[] distrustDays = new int[MOST];
        final int[] chainEnds = new int[MOST];
        final int[] chainCounts = new int[MOST];
        int count = 0;

        boolean isFull() {
            return count >= MOST;
        }

        int append(int signer, int from, int to, int limit) {
            int issuer = count;
            firstSigners[issuer] = signer;
            secondSigners[issuer] = NONE;
            firstDays[issuer] = from;
            endDays[issuer] = to;
            limits[issuer] = limit;
            distrustDays[issuer] = NONE;
            count++;
            updateChains(issuer);
            return issuer;
        }

        boolean isRoot(int issuer) {
            return firstSigners[issuer] == NONE;
        }

        boolean canBeSignedAlsoBy(int issuer, int signer) {
            return !isRoot(issuer) && secondSigners[issuer] == NONE && firstSigners[issuer] != signer;
        }

        void signAlsoBy(int issuer, int signer) {
            secondSigners[issuer] = signer;
            updateChains(issuer);
        }

        /** Only issuers from this one on can have chains through it; rising numbers bring signers first. */
        void updateChains(int changed) {
            for (int issuer = changed; issuer < count; issuer++) {
                int end = LATEST_DAY;
                int chains = 1;
                if (!isRoot(issuer)) {
                    end = chainEnds[firstSigners[issuer]];
                    chains = chainCounts[firstSigners[issuer]];
                }
                if (secondSigners[issuer] != NONE) {
                    end = Math.max(end, chainEnds[secondSigners[issuer]]);
                    chains += chainCounts[secondSigners[issuer]];
                }
                chainEnds[issuer] = Math.min(end, endDays[issuer]);
                chainCounts[issuer] = chains;
            }
        }

        /** Rising numbers bring signers first, so that one pass settles who is good without an issuer (or NONE). */
        int goodOn(int day, int without) {
            int good = 0;
            for (int issuer = 0; issuer < count; issuer++) {
                if (issuer != without && standsOn(issuer, day) && isHeldBy(issuer, good)) {
                    good |= 1 << issuer;
                }
            }
            return good;
        }

        boolean standsOn(int issuer, int day) {
            boolean trusted = distrustDays[issuer] == NONE || day < distrustDays[issuer];
            return trusted && firstDays[issuer] <= day && day <= endDays[issuer];
        }

        boolean isHeldBy(int issuer, int good) {
            return isRoot(issuer)
                    || contains(good, firstSigners[issuer])
                    || secondSigners[issuer] != NONE && contains(good, secondSigners[issuer]);
        }
    }

    /** The certificates by their numbers; none ever leaves. */
    private static final class CertificateTable {
        static final int MOST = 60;

        final int[] issuerNumbers = new int[MOST];
        final int[] subjects = new int[MOST];
        final int[] firstDays = new int[MOST];
        final int[] lengths = new int[MOST];
        final int[] offsets = new int[MOST];
        final int[] renewals = new int[MOST];
        final int[] queue = new int[MOST];
        int count = 0;

        boolean isFull() {
            return count >= MOST;
        }

        int append(int issuer, int subject, int first, int length, int offset) {
            int number = count;
            issuerNumbers[number] = issuer;
            subjects[number] = subject;
            firstDays[number] = first;
            lengths[number] = length;
            offsets[number] = offset;
            renewals[number] = NONE;
            count++;
            return number;
        }

        int endOf(int number) {
            return firstDays[number] + lengths[number] - 1;
        }

        int dueDayOf(int number) {
            return firstDays[number] + lengths[number] * 2 / 3 + offsets[number];
        }

        boolean isWaiting(int number, int day) {
            return dueDayOf(number) <= day && renewals[number] == NONE && day <= endOf(number);
        }

        int issuedInWeek(int issuer, int week) {
            int issued = 0;
            for (int number = 0; number < count; number++) {
                if (issuerNumbers[number] == issuer && weekOf(firstDays[number]) == week) {
                    issued++;
                }
            }
            return issued;
        }

        /** Filled anew for each question, so that no call has to keep it in step; returns how many wait. */
        int fillQueue(int day) {
            int size = 0;
            for (int number = 0; number < count; number++) {
                if (isWaiting(number, day)) {
                    insert(number, size);
                    size++;
                }
            }
            return size;
        }

        /** Passes only what ends later, so that of several that end together the lower number stays ahead. */
        void insert(int number, int size) {
            int place = size;
            while (place > 0 && endOf(queue[place - 1]) > endOf(number)) {
                queue[place] = queue[place - 1];
                place--;
            }
            queue[place] = number;
        }

        int namesHeld(int day, int goodIssuers) {
            int names = 0;
            for (int number = 0; number < count; number++) {
                boolean runs = firstDays[number] <= day && day <= endOf(number);
                if (runs && contains(goodIssuers, issuerNumbers[number])) {
                    names |= namesOf(subjects[number]);
                }
            }
            return names;
        }
    }
}
