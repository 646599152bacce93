import java.util.Random;
import java.util.function.IntSupplier;

/** Runs of 512 drawn calls, each on a new object and a new model side by side; the draws are always the same. */
public final class ModelTest {
    private static final int RUNS = 500;
    private static final int CALLS = 512;
    private static final int[] EDGES = {
        Integer.MIN_VALUE, -2, -1, 0, 1, 7, 8, 15, 16, 19, 20, 50, 51, 59, 60, 100, 101, 255, 256,
        400, 401, 2999, 3000, 3001, 5000, 5001, Integer.MAX_VALUE};

    private final Random random;
    private final CertHerd herd = new CertHerd();
    private final Model model = new Model();
    private final int span;
    private final int run;
    private int asked = 0;

    private ModelTest(int run) {
        this.run = run;
        random = new Random(run);
        span = new int[] {20, 60, 400, 3000}[run % 4];
    }

    public static void main(String[] args) {
        for (int run = 0; run < RUNS; run++) {
            ModelTest test = new ModelTest(run);
            while (test.asked < CALLS) {
                test.drawCall();
            }
        }
        Check.end();
    }

    private void drawCall() {
        int kind = random.nextInt(100);
        if (kind < 12) {
            drawIssuerCall(kind);
        } else if (kind < 40) {
            drawCertificateCall(kind);
        } else if (kind < 70) {
            drawCertificateQuestion(kind);
        } else {
            drawIssuerQuestion(kind);
        }
    }

    private void drawIssuerCall(int kind) {
        int a = issuer();
        if (kind < 5) {
            int signer = random.nextInt(3) == 0 ? -1 : a;
            int from = rarelyEdge(random.nextInt(span / 4 + 1));
            int to = rarelyEdge(from + random.nextInt(span));
            int limit = rarelyEdge(random.nextInt(6));
            both("addIssuer " + signer + " " + from + " " + to + " " + limit,
                    () -> herd.addIssuer(signer, from, to, limit), () -> model.addIssuer(signer, from, to, limit));
        } else if (kind < 7) {
            int b = issuer();
            both("cross " + a + " " + b, () -> herd.cross(a, b), () -> model.cross(a, b));
        } else if (kind < 9) {
            int day = random.nextInt(3) == 0 ? -1 : day();
            both("distrust " + a + " " + day, () -> herd.distrust(a, day), () -> model.distrust(a, day));
        } else if (kind < 11) {
            int name = rarelyEdge(random.nextInt(16));
            int pins = rarelyEdge(random.nextInt(2) * (random.nextInt(256) | random.nextInt(256)));
            both("pin " + name + " " + pins, () -> herd.pin(name, pins), () -> model.pin(name, pins));
        } else {
            int seed = random.nextInt();
            both("setSeed " + seed, () -> {
                herd.setSeed(seed);
                return 0;
            }, () -> model.setSeed(seed));
        }
    }

    private void drawCertificateCall(int kind) {
        if (kind < 25) {
            int issuer = issuer();
            int subject = rarelyEdge(random.nextInt(20));
            int length = rarelyEdge(1 + random.nextInt(Math.min(400, span)));
            both("issue " + issuer + " " + subject + " " + length,
                    () -> herd.issue(issuer, subject, length), () -> model.issue(issuer, subject, length));
        } else if (kind < 37) {
            int days = rarelyEdge(1 + random.nextInt(1 + span / 20));
            both("pass " + days, () -> herd.pass(days), () -> model.pass(days));
        } else {
            both("today", herd::today, model::today);
            both("issuers", herd::issuers, model::issuers);
            both("certificates", herd::certificates, model::certificates);
        }
    }

    private void drawCertificateQuestion(int kind) {
        int number = rarelyEdge(random.nextInt(model.certificates() + 1));
        int place = rarelyEdge(random.nextInt(model.waiting() + 1));
        if (kind < 48) {
            both("issuerOf " + number, () -> herd.issuerOf(number), () -> model.issuerOf(number));
            both("lastDay " + number, () -> herd.lastDay(number), () -> model.lastDay(number));
        } else if (kind < 56) {
            both("dueOn " + number, () -> herd.dueOn(number), () -> model.dueOn(number));
        } else if (kind < 62) {
            both("renewal " + number, () -> herd.renewal(number), () -> model.renewal(number));
        } else {
            both("waiting", herd::waiting, model::waiting);
            both("waitingAt " + place, () -> herd.waitingAt(place), () -> model.waitingAt(place));
        }
    }

    private void drawIssuerQuestion(int kind) {
        int issuer = issuer();
        int name = rarelyEdge(random.nextInt(16));
        int day = day();
        if (kind < 74) {
            both("room " + issuer, () -> herd.room(issuer), () -> model.room(issuer));
        } else if (kind < 78) {
            both("isGood " + issuer + " " + day, () -> herd.isGood(issuer, day) ? 1 : 0,
                    () -> model.isGood(issuer, day));
        } else if (kind < 82) {
            both("chainEnd " + issuer, () -> herd.chainEnd(issuer), () -> model.chainEnd(issuer));
            both("chains " + issuer, () -> herd.chains(issuer), () -> model.chains(issuer));
        } else if (kind < 86) {
            both("isCovered " + name + " " + day, () -> herd.isCovered(name, day) ? 1 : 0,
                    () -> model.isCovered(name, day));
        } else if (kind < 89) {
            both("nextGap " + name + " " + day, () -> herd.nextGap(name, day), () -> model.nextGap(name, day));
        } else if (kind < 93) {
            both("covered " + day, () -> herd.covered(day), () -> model.covered(day));
        } else if (kind < 97) {
            both("breaks " + issuer + " " + day, () -> herd.breaks(issuer, day), () -> model.breaks(issuer, day));
        } else {
            both("weakest " + day, () -> herd.weakest(day), () -> model.weakest(day));
        }
    }

    private int issuer() {
        return rarelyEdge(random.nextInt(Math.max(1, model.issuers())));
    }

    private int day() {
        int around = model.today() + random.nextInt(span / 4 + 1) - span / 16;
        return rarelyEdge(Math.max(0, Math.min(5000, around)));
    }

    private int rarelyEdge(int value) {
        return random.nextInt(16) == 0 ? EDGES[random.nextInt(EDGES.length)] : value;
    }

    private void both(String call, IntSupplier ofHerd, IntSupplier ofModel) {
        if (asked < CALLS) {
            asked++;
            Check.same(run + "." + asked + " " + call, answer(ofHerd), answer(ofModel));
        }
    }

    private static Object answer(IntSupplier call) {
        try {
            return call.getAsInt();
        } catch (RuntimeException e) {
            return e.getClass().getName();
        }
    }
}
