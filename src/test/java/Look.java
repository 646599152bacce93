import java.util.function.IntSupplier;

/** What can be seen of an object, as texts. A look may change the object: it is for the last thing asked of it. */
final class Look {
    private static final int[] DAYS = {0, 5, 9, 10, 11, 150, 250, 450, 3000, 3399, 5000};

    private Look() {
    }

    static String atIssuers(CertHerd herd) {
        StringBuilder text = new StringBuilder();
        text.append(herd.today()).append(' ').append(herd.issuers());
        for (int issuer = 0; issuer < herd.issuers(); issuer++) {
            text.append("\nroom ").append(herd.room(issuer)).append(" end ").append(herd.chainEnd(issuer));
            text.append(" chains ").append(herd.chains(issuer)).append(" good ");
            for (int day : DAYS) {
                text.append(herd.isGood(issuer, day) ? '+' : '-');
            }
        }
        for (int issuer = herd.issuers() - 1; issuer >= 0; issuer--) {
            text.append("\ndistrusted ").append(herd.distrust(issuer, CertHerd.NONE));
        }
        for (int name = 0; name < 16; name++) {
            text.append("\npins ").append(herd.pin(name, 0));
        }
        return text.toString();
    }

    static String atCertificates(CertHerd herd) {
        StringBuilder text = new StringBuilder();
        int count = herd.certificates();
        for (int number = 0; number < count; number++) {
            text.append("\ncertificate ").append(herd.issuerOf(number)).append(' ').append(herd.lastDay(number));
            text.append(' ').append(herd.dueOn(number)).append(' ').append(herd.renewal(number));
        }
        text.append("\nwaiting");
        int waiting = herd.waiting();
        for (int place = 0; place < waiting; place++) {
            text.append(' ').append(herd.waitingAt(place));
        }
        return text.toString();
    }

    static String atCover(CertHerd herd) {
        StringBuilder text = new StringBuilder();
        for (int day : DAYS) {
            text.append("\nday ").append(day).append(' ').append(herd.covered(day));
            text.append(' ').append(herd.weakest(day));
            for (int name = 0; name < 16; name++) {
                text.append(' ').append(herd.nextGap(name, day));
            }
        }
        return text.toString();
    }

    /** What comes when days pass, and when each issuer is let issue: the draws of these tell the seed. */
    static String atFuture(CertHerd herd) {
        StringBuilder text = new StringBuilder();
        for (int name = 0; name < 16; name++) {
            herd.pin(name, 0);
        }
        for (int issuer = 0; issuer < herd.issuers(); issuer++) {
            herd.distrust(issuer, CertHerd.NONE);
        }
        for (int round = 0; round < 5; round++) {
            for (int issuer = 0; issuer < herd.issuers(); issuer++) {
                int by = issuer;
                int length = 400 - 31 * round - issuer;
                text.append("\nissue ").append(answer(() -> herd.dueOn(herd.issue(by, 19, length))));
                text.append(" room ").append(herd.room(issuer));
            }
            int days = round + 1;
            text.append("\npass ").append(answer(() -> herd.pass(days))).append(' ').append(herd.certificates());
        }
        return text.toString();
    }

    private static String answer(IntSupplier call) {
        try {
            return String.valueOf(call.getAsInt());
        } catch (RuntimeException e) {
            return e.getClass().getName();
        }
    }
}
