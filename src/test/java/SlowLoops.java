import java.math.BigInteger;
import java.util.ArrayList;
import java.util.List;
import java.util.TreeSet;

/**
 * The document's definitions taken word by word, with no thought for speed: the measure that
 * ModelTest holds SaveLoops against. It shares no code and no way of working with it.
 */
final class SlowLoops {
    private static final int BAD = -1, NO = -2, FULL = -3, NONE = -4;

    private static final class Part {
        int b, a, z, cost = 1;
        final TreeSet<Integer> tests = new TreeSet<>();
    }

    private static final class Cause {
        int share;
        final TreeSet<Integer> parts = new TreeSet<>();
    }

    private static final class Vote {
        int k;
        final List<Integer> inputs = new ArrayList<>();
    }

    private final List<Part> parts = new ArrayList<>();
    private final List<int[]> bypasses = new ArrayList<>();
    private final List<Cause> causes = new ArrayList<>();
    private final List<Vote> votes = new ArrayList<>();

    private static boolean in(long number, long low, long high) {
        return low <= number && number <= high;
    }

    private boolean noPart(int part) {
        return !in(part, 0, parts.size() - 1);
    }

    private boolean noVote(int vote) {
        return !in(vote, 0, votes.size() - 1);
    }

    private static boolean noDays(int x, int y) {
        return !in(x, 0, 999) || !in(y, 0, 999) || x > y;
    }

    int part(int b, int a, int z) {
        if (!in(b, 0, 64) || !in(a, 0, 64) || !in(z, 0, 64)) return BAD;
        if (parts.size() == 12) return FULL;
        Part part = new Part();
        part.b = b;
        part.a = a;
        part.z = z;
        parts.add(part);
        return parts.size() - 1;
    }

    int test(int part, int day) {
        if (noPart(part) || !in(day, 0, 999)) return BAD;
        TreeSet<Integer> tests = parts.get(part).tests;
        if (!tests.isEmpty() && day <= tests.last()) return NO;
        if (tests.size() == 12) return FULL;
        tests.add(day);
        return tests.size();
    }

    int noTests(int part, int day) {
        if (noPart(part) || !in(day, 0, 999)) return BAD;
        TreeSet<Integer> tests = parts.get(part).tests;
        int before = tests.size();
        tests.removeIf(test -> test >= day);
        return before - tests.size();
    }

    int bypass(int part, int x, int y) {
        if (noPart(part) || noDays(x, y)) return BAD;
        if (bypasses.size() == 20) return FULL;
        bypasses.add(new int[] {part, x, y});
        return bypasses.size();
    }

    private boolean isBypassed(int part, int day) {
        return bypasses.stream().anyMatch(row -> row[0] == part && row[1] <= day && day <= row[2]);
    }

    int bypassed(int part, int x, int y) {
        if (noPart(part) || noDays(x, y)) return BAD;
        int days = 0;
        for (int day = x; day <= y; day++) {
            if (isBypassed(part, day)) days++;
        }
        return days;
    }

    int group(int c, int bits) {
        if (!in(c, 0, 64)) return BAD;
        Cause cause = new Cause();
        cause.share = c;
        for (int bit = 0; bit < 32; bit++) {
            if ((bits & 1 << bit) == 0) continue;
            if (noPart(bit)) return BAD;
            cause.parts.add(bit);
        }
        if (cause.parts.size() < 2) return BAD;
        if (causes.size() == 4) return FULL;
        causes.add(cause);
        return causes.size() - 1;
    }

    int vote(int k, int n, int i0, int i1, int i2, int i3) {
        if (!in(n, 1, 4) || !in(k, 1, n)) return BAD;
        Vote vote = new Vote();
        vote.k = k;
        int[] all = {i0, i1, i2, i3};
        for (int i = 0; i < n; i++) {
            boolean there = in(all[i], 0, 11) ? !noPart(all[i]) : all[i] >= 12 && !noVote(all[i] - 12);
            if (!there) return BAD;
            vote.inputs.add(all[i]);
        }
        if (votes.size() == 12) return FULL;
        votes.add(vote);
        return votes.size() - 1;
    }

    int share(int part, int day) {
        if (noPart(part) || !in(day, 0, 999)) return BAD;
        Part asked = parts.get(part);
        Integer latest = asked.tests.floor(day);
        return share(part, day, day - (latest == null ? 0 : latest));
    }

    private int share(int part, int day, int since) {
        if (isBypassed(part, day)) return 64;
        return Math.min(64, parts.get(part).b + parts.get(part).a * since);
    }

    private TreeSet<Integer> partsOf(int vote) {
        TreeSet<Integer> found = new TreeSet<>();
        boolean[] seen = new boolean[12];
        gather(vote, found, seen);
        return found;
    }

    private void gather(int vote, TreeSet<Integer> found, boolean[] seen) {
        if (seen[vote]) return;
        seen[vote] = true;
        for (int input : votes.get(vote).inputs) {
            if (input < 12) found.add(input);
            else gather(input - 12, found, seen);
        }
    }

    private TreeSet<Integer> causesOf(int vote) {
        TreeSet<Integer> found = new TreeSet<>();
        for (int cause = 0; cause < causes.size(); cause++) {
            TreeSet<Integer> both = new TreeSet<>(causes.get(cause).parts);
            both.retainAll(partsOf(vote));
            if (!both.isEmpty()) found.add(cause);
        }
        return found;
    }

    private static int bits(TreeSet<Integer> numbers) {
        int bits = 0;
        for (int number : numbers) bits += 1 << number;
        return bits;
    }

    int below(int vote, int what) {
        if (noVote(vote)) return BAD;
        if (what == 0) return bits(partsOf(vote));
        if (what == 1) return bits(causesOf(vote));
        if (what == 2) return partsOf(vote).size() + causesOf(vote).size();
        return BAD;
    }

    int shared(int vote, int other) {
        if (noVote(vote) || noVote(other)) return BAD;
        TreeSet<Integer> both = partsOf(vote);
        both.retainAll(partsOf(other));
        TreeSet<Integer> bothCauses = causesOf(vote);
        bothCauses.retainAll(causesOf(other));
        return bits(both) + 4096 * bits(bothCauses);
    }

    private boolean acts(int vote, boolean[] partActs, Boolean[] known) {
        if (known[vote] == null) {
            int acting = 0;
            for (int input : votes.get(vote).inputs) {
                if (input < 12 ? partActs[input] : acts(input - 12, partActs, known)) acting++;
            }
            known[vote] = acting >= votes.get(vote).k;
        }
        return known[vote];
    }

    /** Shares of parts by their numbers; the sum over all sets of events, told by 64 to the 8th. */
    private long chanceWith(int vote, int[] shares) {
        List<Integer> ownParts = new ArrayList<>(partsOf(vote));
        List<Integer> ownCauses = new ArrayList<>(causesOf(vote));
        int events = ownParts.size() + ownCauses.size();
        BigInteger sum = BigInteger.ZERO;
        for (int set = 0; set < 1 << events; set++) {
            BigInteger product = BigInteger.ONE;
            boolean[] partActs = new boolean[12];
            java.util.Arrays.fill(partActs, true);
            for (int event = 0; event < events; event++) {
                boolean happens = (set & 1 << event) != 0;
                boolean isPart = event < ownParts.size();
                int share = isPart ? shares[ownParts.get(event)] : causes.get(ownCauses.get(event - ownParts.size())).share;
                product = product.multiply(BigInteger.valueOf(happens ? share : 64 - share));
                if (happens && isPart) partActs[ownParts.get(event)] = false;
                if (happens && !isPart) {
                    for (int struck : causes.get(ownCauses.get(event - ownParts.size())).parts) partActs[struck] = false;
                }
            }
            if (product.signum() != 0 && !acts(vote, partActs, new Boolean[12])) sum = sum.add(product);
        }
        return sum.multiply(BigInteger.valueOf(64).pow(8 - events)).longValueExact();
    }

    private int[] sharesOn(int day) {
        int[] shares = new int[12];
        for (int part = 0; part < parts.size(); part++) shares[part] = share(part, day);
        return shares;
    }

    long chance(int vote, int day) {
        if (noVote(vote) || !in(day, 0, 999)) return BAD;
        if (below(vote, 2) > 8) return NO;
        return chanceWith(vote, sharesOn(day));
    }

    long over(int vote, int x, int y) {
        if (noVote(vote) || noDays(x, y) || y - x + 1 > 200) return BAD;
        if (below(vote, 2) > 8) return NO;
        long sum = 0;
        for (int day = x; day <= y; day++) sum = Math.addExact(sum, chance(vote, day));
        return sum;
    }

    int broken(int vote, int x, int y, long limit) {
        if (noVote(vote) || noDays(x, y) || y - x + 1 > 200 || !in(limit, 0, 281474976710656L)) return BAD;
        if (below(vote, 2) > 8) return NO;
        for (int day = x; day <= y; day++) {
            if (chance(vote, day) > limit) return day;
        }
        return NONE;
    }

    long nothing(int vote) {
        if (noVote(vote)) return BAD;
        List<Integer> own = new ArrayList<>(partsOf(vote));
        if (own.size() > 8) return NO;
        BigInteger sum = BigInteger.ZERO;
        for (int set = 0; set < 1 << own.size(); set++) {
            BigInteger product = BigInteger.ONE;
            boolean[] partActs = new boolean[12];
            for (int place = 0; place < own.size(); place++) {
                boolean happens = (set & 1 << place) != 0;
                int z = parts.get(own.get(place)).z;
                product = product.multiply(BigInteger.valueOf(happens ? z : 64 - z));
                partActs[own.get(place)] = happens;
            }
            if (acts(vote, partActs, new Boolean[12])) sum = sum.add(product);
        }
        return sum.multiply(BigInteger.valueOf(64).pow(8 - own.size())).longValueExact();
    }

    long matters(int vote, int part, int day) {
        if (noVote(vote) || noPart(part) || !in(day, 0, 999)) return BAD;
        if (below(vote, 2) > 8) return NO;
        if (!partsOf(vote).contains(part)) return 0;
        int[] shares = sharesOn(day);
        shares[part] = 64;
        long failing = chanceWith(vote, shares);
        shares[part] = 0;
        return failing - chanceWith(vote, shares);
    }

    int most(int vote, int day) {
        if (noVote(vote) || !in(day, 0, 999)) return BAD;
        if (below(vote, 2) > 8) return NO;
        int best = partsOf(vote).first();
        for (int part : partsOf(vote)) {
            if (matters(vote, part, day) > matters(vote, best, day)) best = part;
        }
        return best;
    }

    int cost(int part, int c) {
        if (noPart(part) || !in(c, 0, 1000)) return BAD;
        int before = parts.get(part).cost;
        parts.get(part).cost = c;
        return before;
    }

    int plan(int vote, int p, int q, int r, long limit, int what) {
        if (noVote(vote) || !in(p, 1, 100) || !in(q, 1, 100) || !in(r, 1, 100)) return BAD;
        if (!in(limit, 0, 28147497671065600L) || !in(what, 0, 1)) return BAD;
        List<Integer> own = new ArrayList<>(partsOf(vote));
        if (own.size() > 3) return NO;
        int[] intervals = {p, q, r};
        int bestCost = -1;
        String best = null;
        // Every number to the base 3 is a plan; they are told apart by cost, then by the text of choices.
        for (int number = 0; number < (int) Math.round(Math.pow(3, own.size())); number++) {
            StringBuilder text = new StringBuilder();
            int[] taken = new int[own.size()];
            int cost = 0;
            for (int place = 0, rest = number; place < own.size(); place++, rest /= 3) {
                text.append(rest % 3);
                taken[place] = intervals[rest % 3];
                cost += parts.get(own.get(place)).cost * (100 / taken[place]);
            }
            if (planSum(vote, own, taken) > limit) continue;
            if (best == null || cost < bestCost || cost == bestCost && text.toString().compareTo(best) < 0) {
                best = text.toString();
                bestCost = cost;
            }
        }
        if (best == null) return NONE;
        return what == 0 ? bestCost : Integer.parseInt(new StringBuilder(best).reverse().toString(), 3);
    }

    private long planSum(int vote, List<Integer> own, int[] intervals) {
        long sum = 0;
        for (int day = 0; day < 100; day++) {
            int[] shares = new int[12];
            for (int place = 0; place < own.size(); place++) {
                int test = 0;
                while (test + intervals[place] <= day) test += intervals[place];
                shares[own.get(place)] = share(own.get(place), day, day - test);
            }
            sum += chanceWith(vote, shares);
        }
        return sum;
    }

    int count(int what) {
        switch (what) {
            case 0: return parts.size();
            case 1: return parts.stream().mapToInt(part -> part.tests.size()).sum();
            case 2: return bypasses.size();
            case 3: return causes.size();
            case 4: return votes.size();
            default: return BAD;
        }
    }
}
