import java.util.ArrayList;
import java.util.Comparator;
import java.util.HashMap;
import java.util.HashSet;
import java.util.List;
import java.util.Map;
import java.util.Set;
import java.util.TreeSet;

/** The document told once more in the slowest way: chains as lists, sets of names, everything asked anew. */
final class Model {
    private static final class Issuer {
        int number;
        int from;
        int to;
        int limit;
        Integer distrusted;
        final List<Issuer> signers = new ArrayList<>();
        final Map<Integer, Integer> issuedByWeek = new HashMap<>();
    }

    private static final class Certificate {
        int number;
        Issuer issuer;
        int subject;
        int first;
        int last;
        int length;
        int due;
        Certificate renewal;
    }

    private final List<Issuer> issuers = new ArrayList<>();
    private final List<Certificate> certificates = new ArrayList<>();
    private final Map<Integer, Set<Integer>> pins = new HashMap<>();
    private int seed = 1;
    private int today = 0;

    int addIssuer(int signer, int from, int to, int limit) {
        Issuer signing = signer == -1 ? null : issuer(signer);
        need(from >= 0 && from <= 5000 && to >= from && to <= 5000 && limit >= 0 && limit <= 50);
        state(issuers.size() < 8);
        Issuer made = new Issuer();
        made.number = issuers.size();
        made.from = from;
        made.to = to;
        made.limit = limit;
        if (signing != null) {
            made.signers.add(signing);
        }
        issuers.add(made);
        return made.number;
    }

    int cross(int number, int signer) {
        Issuer issuer = issuer(number);
        Issuer signing = issuer(signer);
        need(signer < number);
        state(issuer.signers.size() == 1 && issuer.signers.get(0) != signing);
        issuer.signers.add(signing);
        return chainEnd(number);
    }

    int distrust(int number, int day) {
        Issuer issuer = issuer(number);
        need(day >= -1 && day <= 5000);
        int before = issuer.distrusted == null ? -1 : issuer.distrusted;
        issuer.distrusted = day == -1 ? null : Integer.valueOf(day);
        return before;
    }

    int pin(int name, int set) {
        index(name >= 0 && name <= 15);
        need(set >= 0 && set <= 255);
        int before = bits(pins.getOrDefault(name, Set.of()));
        Set<Integer> pinned = new HashSet<>();
        for (int i = 0; i < 8; i++) {
            if (set / (1 << i) % 2 == 1) {
                pinned.add(i);
            }
        }
        pins.put(name, pinned);
        return before;
    }

    int setSeed(int value) {
        seed = value;
        return 0;
    }

    int issue(int number, int subject, int length) {
        Issuer issuer = issuer(number);
        need(subject >= 0 && subject <= 19 && length >= 1 && length <= 400);
        state(canIssue(issuer, subject));
        return make(issuer, subject, length).number;
    }

    int pass(int days) {
        need(days >= 1 && days <= 100);
        state(today + days <= 3000);
        int came = 0;
        for (int i = 0; i < days; i++) {
            today++;
            for (Certificate old : queue()) {
                if (canIssue(old.issuer, old.subject)) {
                    old.renewal = make(old.issuer, old.subject, old.length);
                    came++;
                }
            }
        }
        return came;
    }

    int today() {
        return today;
    }

    int issuers() {
        return issuers.size();
    }

    int certificates() {
        return certificates.size();
    }

    int issuerOf(int number) {
        return certificate(number).issuer.number;
    }

    int lastDay(int number) {
        return certificate(number).last;
    }

    int dueOn(int number) {
        return certificate(number).due;
    }

    int renewal(int number) {
        Certificate came = certificate(number).renewal;
        return came == null ? -1 : came.number;
    }

    int waiting() {
        return queue().size();
    }

    int waitingAt(int place) {
        List<Certificate> queue = queue();
        index(place >= 0 && place < queue.size());
        return queue.get(place).number;
    }

    int room(int number) {
        Issuer issuer = issuer(number);
        return issuer.limit - issuer.issuedByWeek.getOrDefault(today / 7, 0);
    }

    int isGood(int number, int day) {
        Issuer issuer = issuer(number);
        need(day >= 0 && day <= 5000);
        return good(issuer, day, null) ? 1 : 0;
    }

    int chainEnd(int number) {
        int longest = -1;
        for (List<Issuer> chain : chainsOf(issuer(number))) {
            int end = 5000;
            for (Issuer member : chain) {
                end = member.to < end ? member.to : end;
            }
            longest = end > longest ? end : longest;
        }
        return longest;
    }

    int chains(int number) {
        return chainsOf(issuer(number)).size();
    }

    int isCovered(int name, int day) {
        index(name >= 0 && name <= 15);
        need(day >= 0 && day <= 5000);
        return coveredNames(day, null).contains(name) ? 1 : 0;
    }

    int nextGap(int name, int day) {
        index(name >= 0 && name <= 15);
        need(day >= 0 && day <= 5000);
        for (int later = day; later <= 5000; later++) {
            if (!coveredNames(later, null).contains(name)) {
                return later;
            }
        }
        return -1;
    }

    int covered(int day) {
        need(day >= 0 && day <= 5000);
        return bits(coveredNames(day, null));
    }

    int breaks(int number, int day) {
        Issuer issuer = issuer(number);
        need(day >= 0 && day <= 5000);
        Set<Integer> lost = coveredNames(day, null);
        lost.removeAll(coveredNames(day, issuer));
        return bits(lost);
    }

    int weakest(int day) {
        need(day >= 0 && day <= 5000);
        int most = 0;
        for (Issuer issuer : issuers) {
            most = Math.max(most, Integer.bitCount(breaks(issuer.number, day)));
        }
        for (Issuer issuer : issuers) {
            if (most > 0 && Integer.bitCount(breaks(issuer.number, day)) == most) {
                return issuer.number;
            }
        }
        return -1;
    }

    private boolean canIssue(Issuer issuer, int subject) {
        for (int name : namesOf(subject)) {
            Set<Integer> pinned = pins.getOrDefault(name, Set.of());
            if (!pinned.isEmpty() && !pinned.contains(issuer.number)) {
                return false;
            }
        }
        return good(issuer, today, null) && room(issuer.number) >= 1 && certificates.size() <= 59;
    }

    private Certificate make(Issuer issuer, int subject, int length) {
        Certificate made = new Certificate();
        made.number = certificates.size();
        made.issuer = issuer;
        made.subject = subject;
        made.length = length;
        made.first = today;
        made.last = today + length - 1;
        seed = (int) (seed * 1103515245L + 12345L);
        long upper = (seed & 0xFFFFFFFFL) / 65536;
        int share = (int) Math.floor(2.0 * length / 3.0 + 1e-9);
        made.due = today + share + (int) (upper % (length / 6 + 1));
        issuer.issuedByWeek.merge(today / 7, 1, Integer::sum);
        certificates.add(made);
        return made;
    }

    private List<Certificate> queue() {
        List<Certificate> queue = new ArrayList<>();
        for (Certificate each : certificates) {
            if (each.due <= today && each.renewal == null && each.last >= today) {
                queue.add(each);
            }
        }
        queue.sort(Comparator.comparingInt((Certificate c) -> c.last).thenComparingInt(c -> c.number));
        return queue;
    }

    private static List<List<Issuer>> chainsOf(Issuer issuer) {
        List<List<Issuer>> chains = new ArrayList<>();
        if (issuer.signers.isEmpty()) {
            chains.add(List.of(issuer));
        }
        for (Issuer signer : issuer.signers) {
            for (List<Issuer> rest : chainsOf(signer)) {
                List<Issuer> chain = new ArrayList<>(rest);
                chain.add(issuer);
                chains.add(chain);
            }
        }
        return chains;
    }

    private static boolean good(Issuer issuer, int day, Issuer without) {
        for (List<Issuer> chain : chainsOf(issuer)) {
            boolean holds = true;
            for (Issuer member : chain) {
                boolean distrusted = member.distrusted != null && day >= member.distrusted;
                holds &= day >= member.from && day <= member.to && !distrusted && member != without;
            }
            if (holds) {
                return true;
            }
        }
        return false;
    }

    private Set<Integer> coveredNames(int day, Issuer without) {
        Set<Integer> names = new HashSet<>();
        for (Certificate each : certificates) {
            if (day >= each.first && day <= each.last && good(each.issuer, day, without)) {
                names.addAll(namesOf(each.subject));
            }
        }
        return names;
    }

    private static Set<Integer> namesOf(int subject) {
        Set<Integer> names = new TreeSet<>();
        for (int name = 0; name < 16; name++) {
            if (subject == name || subject == 16 + name / 4) {
                names.add(name);
            }
        }
        return names;
    }

    private static int bits(Set<Integer> set) {
        int bits = 0;
        for (int element : set) {
            bits += 1 << element;
        }
        return bits;
    }

    private Issuer issuer(int number) {
        index(number >= 0 && number < issuers.size());
        return issuers.get(number);
    }

    private Certificate certificate(int number) {
        index(number >= 0 && number < certificates.size());
        return certificates.get(number);
    }

    private static void index(boolean right) {
        if (!right) {
            throw new IndexOutOfBoundsException();
        }
    }

    private static void need(boolean right) {
        if (!right) {
            throw new IllegalArgumentException();
        }
    }

    private static void state(boolean right) {
        if (!right) {
            throw new IllegalStateException();
        }
    }
}
