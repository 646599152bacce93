/** All that an object can be asked for, as one text; only the seed and limits of other weeks stay hidden. */
final class Snapshot {
    private Snapshot() {
    }

    static String of(CertHerd herd) {
        StringBuilder text = new StringBuilder();
        text.append("today ").append(herd.today());
        appendIssuers(herd, text);
        appendCertificates(herd, text);
        appendPins(herd, text);
        appendCovered(herd, text);
        return text.toString();
    }

    private static void appendIssuers(CertHerd herd, StringBuilder text) {
        for (int issuer = 0; issuer < herd.issuers(); issuer++) {
            int distrusted = herd.distrust(issuer, CertHerd.NONE);
            herd.distrust(issuer, distrusted);
            text.append("\nissuer ").append(herd.room(issuer)).append(' ').append(distrusted);
            text.append(' ').append(herd.chainEnd(issuer)).append(' ').append(herd.chains(issuer)).append(' ');
            for (int day = 0; day <= 5000; day += day < 100 ? 1 : 100) {
                text.append(herd.isGood(issuer, day) ? '+' : '-');
            }
        }
    }

    private static void appendCertificates(CertHerd herd, StringBuilder text) {
        for (int number = 0; number < herd.certificates(); number++) {
            text.append("\ncertificate ").append(herd.issuerOf(number)).append(' ').append(herd.lastDay(number));
            text.append(' ').append(herd.dueOn(number)).append(' ').append(herd.renewal(number));
        }
        text.append("\nwaiting");
        for (int place = 0; place < herd.waiting(); place++) {
            text.append(' ').append(herd.waitingAt(place));
        }
    }

    private static void appendPins(CertHerd herd, StringBuilder text) {
        text.append("\npins");
        for (int name = 0; name < 16; name++) {
            int pins = herd.pin(name, 0);
            herd.pin(name, pins);
            text.append(' ').append(pins);
        }
    }

    private static void appendCovered(CertHerd herd, StringBuilder text) {
        text.append("\ncovered");
        for (int day = 0; day <= 5000; day += day < 100 ? 1 : 50) {
            text.append(' ').append(herd.covered(day));
        }
    }
}
