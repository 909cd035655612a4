/**
 * Loops that save: parts that may fail unseen, votes over them, causes that strike several at once,
 * and the exact chances that follow. All rows are made with the object; no later call makes any.
 */
public final class SaveLoops {
    public static final int BAD = -1, NO = -2, FULL = -3, NONE = -4;

    private static final int WHOLE = 64;
    private static final int WHOLE_BITS = 6;
    private static final int LAST_DAY = 999;
    private static final int DAY_WORDS = 16;
    private static final int MOST_PARTS = 12;
    private static final int MOST_TESTS = 12;
    private static final int MOST_BYPASSES = 20;
    private static final int MOST_GROUPS = 4;
    private static final int MOST_VOTES = 12;
    private static final int MOST_INPUTS = 4;
    private static final int MOST_EVENTS = 8;
    private static final int MOST_SETS = 256;
    private static final int SET_WORDS = 4;
    private static final int MOST_SUMMED_DAYS = 200;
    private static final int MOST_COST = 1000;
    private static final int MOST_PLANNED_PARTS = 3;
    private static final int PLANNED_DAYS = 100;
    private static final int CHOICES = 3;
    private static final long CERTAIN = 281474976710656L;

    private final Parts parts;
    private final Groups groups;
    private final Votes votes;
    private final Odds odds;
    private final Planner planner;
    private final int[] asked;

    public SaveLoops() {
        parts = new Parts();
        groups = new Groups();
        votes = new Votes();
        odds = new Odds(parts, groups, votes);
        planner = new Planner(parts, odds);
        asked = new int[MOST_INPUTS];
    }

    public int part(int b, int a, int z) {
        if (!isShare(b) || !isShare(a) || !isShare(z)) {
            return BAD;
        }
        return parts.add(b, a, z);
    }

    public int test(int part, int day) {
        if (!parts.has(part) || !isDay(day)) {
            return BAD;
        }
        return parts.addTest(part, day);
    }

    public int noTests(int part, int day) {
        if (!parts.has(part) || !isDay(day)) {
            return BAD;
        }
        return parts.dropTests(part, day);
    }

    public int bypass(int part, int x, int y) {
        if (!parts.has(part) || !areDays(x, y)) {
            return BAD;
        }
        return parts.addBypass(part, x, y);
    }

    public int bypassed(int part, int x, int y) {
        if (!parts.has(part) || !areDays(x, y)) {
            return BAD;
        }
        return parts.bypassedDays(part, x, y);
    }

    public int group(int c, int parts) {
        if (!isShare(c) || !this.parts.hasAll(parts) || Integer.bitCount(parts) < 2) {
            return BAD;
        }
        return groups.add(c, parts);
    }

    public int vote(int k, int n, int i0, int i1, int i2, int i3) {
        if (n < 1 || n > MOST_INPUTS || k < 1 || k > n) {
            return BAD;
        }
        asked[0] = i0;
        asked[1] = i1;
        asked[2] = i2;
        asked[3] = i3;
        for (int i = 0; i < n; i++) {
            if (!isInput(asked[i])) {
                return BAD;
            }
        }
        return votes.add(k, n, asked);
    }

    public int share(int part, int day) {
        if (!parts.has(part) || !isDay(day)) {
            return BAD;
        }
        return parts.shareOn(part, day);
    }

    public int below(int vote, int what) {
        if (!votes.has(vote)) {
            return BAD;
        }
        switch (what) {
            case 0:
                return votes.partsBelow(vote);
            case 1:
                return odds.groupsOf(vote);
            case 2:
                return odds.eventsOf(vote);
            default:
                return BAD;
        }
    }

    public int shared(int vote, int other) {
        if (!votes.has(vote) || !votes.has(other)) {
            return BAD;
        }
        int sharedGroups = odds.groupsOf(vote) & odds.groupsOf(other);
        return votes.partsBelow(vote) & votes.partsBelow(other) | sharedGroups << MOST_PARTS;
    }

    public long chance(int vote, int day) {
        if (!votes.has(vote) || !isDay(day)) {
            return BAD;
        }
        if (odds.hasTooManyEvents(vote)) {
            return NO;
        }
        odds.startFailing(vote);
        return odds.onDay(day);
    }

    public long over(int vote, int x, int y) {
        if (!votes.has(vote) || !areSummedDays(x, y)) {
            return BAD;
        }
        if (odds.hasTooManyEvents(vote)) {
            return NO;
        }
        odds.startFailing(vote);
        long sum = 0;
        for (int day = x; day <= y; day++) {
            sum += odds.onDay(day);
        }
        return sum;
    }

    public int broken(int vote, int x, int y, long limit) {
        if (!votes.has(vote) || !areSummedDays(x, y) || limit < 0 || limit > CERTAIN) {
            return BAD;
        }
        if (odds.hasTooManyEvents(vote)) {
            return NO;
        }
        odds.startFailing(vote);
        for (int day = x; day <= y; day++) {
            if (odds.onDay(day) > limit) {
                return day;
            }
        }
        return NONE;
    }

    public long nothing(int vote) {
        if (!votes.has(vote)) {
            return BAD;
        }
        // GROUPS are no EVENTS here, so PARTS alone are counted against the limit.
        if (votes.sizeBelow(vote) > MOST_EVENTS) {
            return NO;
        }
        return odds.forNothing(vote);
    }

    public long matters(int vote, int part, int day) {
        if (!votes.has(vote) || !parts.has(part) || !isDay(day)) {
            return BAD;
        }
        if (odds.hasTooManyEvents(vote)) {
            return NO;
        }
        odds.startFailing(vote);
        return odds.weightOf(part, day);
    }

    public int most(int vote, int day) {
        if (!votes.has(vote) || !isDay(day)) {
            return BAD;
        }
        if (odds.hasTooManyEvents(vote)) {
            return NO;
        }
        odds.startFailing(vote);
        return odds.weightiestPart(day);
    }

    public int cost(int part, int c) {
        if (!parts.has(part) || c < 0 || c > MOST_COST) {
            return BAD;
        }
        return parts.changeCost(part, c);
    }

    public int plan(int vote, int p, int q, int r, long limit, int what) {
        if (!votes.has(vote) || !isInterval(p) || !isInterval(q) || !isInterval(r)) {
            return BAD;
        }
        if (limit < 0 || limit > CERTAIN * PLANNED_DAYS || what < 0 || what > 1) {
            return BAD;
        }
        if (votes.sizeBelow(vote) > MOST_PLANNED_PARTS || odds.hasTooManyEvents(vote)) {
            return NO;
        }
        planner.setIntervals(p, q, r);
        if (!planner.findCheapest(vote, limit)) {
            return NONE;
        }
        return what == 0 ? planner.cheapestCost() : planner.cheapestChoices();
    }

    public int count(int what) {
        switch (what) {
            case 0:
                return parts.size();
            case 1:
                return parts.allTests();
            case 2:
                return parts.allBypasses();
            case 3:
                return groups.size();
            case 4:
                return votes.size();
            default:
                return BAD;
        }
    }

    private boolean isInput(int input) {
        return input < MOST_PARTS ? parts.has(input) : votes.has(input - MOST_PARTS);
    }

    private static boolean isShare(int number) {
        return number >= 0 && number <= WHOLE;
    }

    private static boolean isDay(int number) {
        return number >= 0 && number <= LAST_DAY;
    }

    private static boolean areDays(int x, int y) {
        return isDay(x) && isDay(y) && x <= y;
    }

    private static boolean areSummedDays(int x, int y) {
        return areDays(x, y) && y - x < MOST_SUMMED_DAYS;
    }

    private static boolean isInterval(int number) {
        return number >= 1 && number <= PLANNED_DAYS;
    }

    private static boolean hasBit(int bits, int place) {
        return (bits >>> place & 1) != 0;
    }

    /** The bits that stand where the mask has bits, moved together to the low end. */
    private static int packed(int bits, int mask) {
        int answer = 0;
        int place = 0;
        for (int part = 0; part < MOST_PARTS; part++) {
            if (hasBit(mask, part)) {
                answer |= (bits >>> part & 1) << place;
                place++;
            }
        }
        return answer;
    }

    /** What packed answers for these bits is the set: the way back. */
    private static int spread(int set, int mask) {
        int answer = 0;
        int place = 0;
        for (int part = 0; part < MOST_PARTS; part++) {
            if (hasBit(mask, part)) {
                answer |= (set >>> place & 1) << part;
                place++;
            }
        }
        return answer;
    }

    /** The PARTS with their TESTS, BYPASSES and COSTS; a part's number is its place in every row. */
    private static final class Parts {
        private final int[] atOnce = new int[MOST_PARTS];
        private final int[] perDay = new int[MOST_PARTS];
        private final int[] forNothing = new int[MOST_PARTS];
        private final int[] costs = new int[MOST_PARTS];
        private final int[] testCounts = new int[MOST_PARTS];
        private final int[] testDays = new int[MOST_PARTS * MOST_TESTS];
        // Bypasses never go, and only the days that they cover are asked for: a bit for each day.
        private final long[] bypassBits = new long[MOST_PARTS * DAY_WORDS];
        private int bypasses = 0;
        private int count = 0;

        boolean has(int part) {
            return part >= 0 && part < count;
        }

        boolean hasAll(int bits) {
            return bits >>> count == 0;
        }

        int size() {
            return count;
        }

        int add(int b, int a, int z) {
            if (count >= MOST_PARTS) {
                return FULL;
            }
            atOnce[count] = b;
            perDay[count] = a;
            forNothing[count] = z;
            costs[count] = 1;
            count++;
            return count - 1;
        }

        int addTest(int part, int day) {
            int tests = testCounts[part];
            if (tests > 0 && day <= testDays[part * MOST_TESTS + tests - 1]) {
                return NO;
            }
            if (tests >= MOST_TESTS) {
                return FULL;
            }
            testDays[part * MOST_TESTS + tests] = day;
            testCounts[part] = tests + 1;
            return tests + 1;
        }

        int dropTests(int part, int day) {
            int kept = testsUpTo(part, day - 1);
            int dropped = testCounts[part] - kept;
            testCounts[part] = kept;
            return dropped;
        }

        int allTests() {
            int sum = 0;
            for (int part = 0; part < count; part++) {
                sum += testCounts[part];
            }
            return sum;
        }

        int allBypasses() {
            return bypasses;
        }

        int addBypass(int part, int x, int y) {
            if (bypasses >= MOST_BYPASSES) {
                return FULL;
            }
            for (int word = 0; word < DAY_WORDS; word++) {
                bypassBits[part * DAY_WORDS + word] |= daysInWord(word, x, y);
            }
            bypasses++;
            return bypasses;
        }

        int bypassedDays(int part, int x, int y) {
            int days = 0;
            for (int word = 0; word < DAY_WORDS; word++) {
                days += Long.bitCount(bypassBits[part * DAY_WORDS + word] & daysInWord(word, x, y));
            }
            return days;
        }

        int changeCost(int part, int cost) {
            int before = costs[part];
            costs[part] = cost;
            return before;
        }

        int costOf(int part) {
            return costs[part];
        }

        int shareForNothing(int part) {
            return forNothing[part];
        }

        int shareOn(int part, int day) {
            int tests = testsUpTo(part, day);
            int since = tests == 0 ? 0 : testDays[part * MOST_TESTS + tests - 1];
            return shareAfter(part, day, day - since);
        }

        int shareAfter(int part, int day, int daysSinceTest) {
            if ((bypassBits[part * DAY_WORDS + (day >> 6)] >>> (day & 63) & 1) != 0) {
                return WHOLE;
            }
            return Math.min(WHOLE, atOnce[part] + perDay[part] * daysSinceTest);
        }

        private int testsUpTo(int part, int day) {
            int tests = 0;
            for (int i = 0; i < testCounts[part]; i++) {
                if (testDays[part * MOST_TESTS + i] <= day) {
                    tests++;
                }
            }
            return tests;
        }

        private static long daysInWord(int word, int x, int y) {
            int first = Math.max(x - word * 64, 0);
            int last = Math.min(y - word * 64, 63);
            return first > last ? 0 : -1L << first & -1L >>> (63 - last);
        }
    }

    /** The GROUPS: each a cause with its share and the parts that it strikes. */
    private static final class Groups {
        private final int[] shares = new int[MOST_GROUPS];
        private final int[] struck = new int[MOST_GROUPS];
        private int count = 0;

        int size() {
            return count;
        }

        int add(int share, int parts) {
            if (count >= MOST_GROUPS) {
                return FULL;
            }
            shares[count] = share;
            struck[count] = parts;
            count++;
            return count - 1;
        }

        int shareOf(int group) {
            return shares[group];
        }

        int struckBy(int group) {
            return struck[group];
        }

        /** The groups, as bits, that strike one of these parts at least. */
        int striking(int parts) {
            int answer = 0;
            for (int group = 0; group < count; group++) {
                if ((struck[group] & parts) != 0) {
                    answer |= 1 << group;
                }
            }
            return answer;
        }
    }

    /**
     * The VOTES. A vote never changes, so whether it acts is worked out once for every set of
     * its parts: asked anew through votes of votes, the same one would be met again and again.
     */
    private static final class Votes {
        private final int[] needed = new int[MOST_VOTES];
        private final int[] inputCounts = new int[MOST_VOTES];
        private final int[] inputs = new int[MOST_VOTES * MOST_INPUTS];
        private final int[] belows = new int[MOST_VOTES];
        private final long[] actingSets = new long[MOST_VOTES * SET_WORDS];
        private int count = 0;

        boolean has(int vote) {
            return vote >= 0 && vote < count;
        }

        int size() {
            return count;
        }

        int partsBelow(int vote) {
            return belows[vote];
        }

        int sizeBelow(int vote) {
            return Integer.bitCount(belows[vote]);
        }

        int add(int k, int n, int[] given) {
            if (count >= MOST_VOTES) {
                return FULL;
            }
            int vote = count;
            needed[vote] = k;
            inputCounts[vote] = n;
            for (int i = 0; i < n; i++) {
                inputs[vote * MOST_INPUTS + i] = given[i];
                belows[vote] |= partsOfInput(given[i]);
            }
            // With more parts its chance is never told, and the row has no room for its sets.
            if (sizeBelow(vote) <= MOST_EVENTS) {
                workOutActingSets(vote);
            }
            count++;
            return vote;
        }

        /** A set has a bit for each part below, the lowest part's first: those that act. */
        boolean actsIn(int vote, int set) {
            return (actingSets[vote * SET_WORDS + (set >> 6)] >>> (set & 63) & 1) != 0;
        }

        private int partsOfInput(int input) {
            return input < MOST_PARTS ? 1 << input : belows[input - MOST_PARTS];
        }

        private void workOutActingSets(int vote) {
            int sets = 1 << sizeBelow(vote);
            for (int set = 0; set < sets; set++) {
                if (actingInputs(vote, spread(set, belows[vote])) >= needed[vote]) {
                    actingSets[vote * SET_WORDS + (set >> 6)] |= 1L << (set & 63);
                }
            }
        }

        private int actingInputs(int vote, int actingParts) {
            int acting = 0;
            for (int i = 0; i < inputCounts[vote]; i++) {
                if (inputActs(inputs[vote * MOST_INPUTS + i], actingParts)) {
                    acting++;
                }
            }
            return acting;
        }

        private boolean inputActs(int input, int actingParts) {
            if (input < MOST_PARTS) {
                return hasBit(actingParts, input);
            }
            int vote = input - MOST_PARTS;
            return actsIn(vote, packed(actingParts, belows[vote]));
        }
    }

    /**
     * Chances of one vote, which is chosen by startFailing. Shares of groups are the same on every
     * day, so they are worked into the row once; each day is then a matter of its parts alone.
     */
    private static final class Odds {
        private final Parts parts;
        private final Groups groups;
        private final Votes votes;
        private final long[] bySet = new long[MOST_SETS];
        private final long[] folded = new long[MOST_SETS];
        private final int[] members = new int[MOST_EVENTS];
        private final int[] shares = new int[MOST_EVENTS];
        private int size = 0;
        private int events = 0;

        Odds(Parts parts, Groups groups, Votes votes) {
            this.parts = parts;
            this.groups = groups;
            this.votes = votes;
        }

        int groupsOf(int vote) {
            return groups.striking(votes.partsBelow(vote));
        }

        int eventsOf(int vote) {
            return votes.sizeBelow(vote) + Integer.bitCount(groupsOf(vote));
        }

        boolean hasTooManyEvents(int vote) {
            return eventsOf(vote) > MOST_EVENTS;
        }

        /** Takes a vote whose events are not too many; sets are of parts that fail. */
        void startFailing(int vote) {
            takeMembers(vote);
            int sets = 1 << size;
            for (int failing = 0; failing < sets; failing++) {
                bySet[failing] = votes.actsIn(vote, sets - 1 - failing) ? 0 : 1;
            }
            for (int group = 0; group < groups.size(); group++) {
                int struck = packed(groups.struckBy(group), votes.partsBelow(vote));
                if (struck != 0) {
                    workIn(struck, groups.shareOf(group));
                }
            }
        }

        long onDay(int day) {
            takeSharesOn(day);
            return sum();
        }

        /** Takes a vote whose parts are not too many; sets are of parts that act for nothing. */
        long forNothing(int vote) {
            takeMembers(vote);
            int sets = 1 << size;
            for (int acting = 0; acting < sets; acting++) {
                bySet[acting] = votes.actsIn(vote, acting) ? 1 : 0;
            }
            for (int place = 0; place < size; place++) {
                shares[place] = parts.shareForNothing(members[place]);
            }
            return sum();
        }

        long weightOf(int part, int day) {
            takeSharesOn(day);
            for (int place = 0; place < size; place++) {
                if (members[place] == part) {
                    return weightAt(place);
                }
            }
            return 0;
        }

        int weightiestPart(int day) {
            takeSharesOn(day);
            int best = 0;
            long bestWeight = weightAt(0);
            for (int place = 1; place < size; place++) {
                long weight = weightAt(place);
                if (weight > bestWeight) {
                    best = place;
                    bestWeight = weight;
                }
            }
            return members[best];
        }

        int memberCount() {
            return size;
        }

        int memberAt(int place) {
            return members[place];
        }

        void setShare(int place, int share) {
            shares[place] = share;
        }

        /** The sum over all sets, with the shares as they are set, by 64 to the 8th. */
        long sum() {
            System.arraycopy(bySet, 0, folded, 0, 1 << size);
            for (int place = size - 1; place >= 0; place--) {
                int half = 1 << place;
                long share = shares[place];
                for (int set = 0; set < half; set++) {
                    folded[set] = (WHOLE - share) * folded[set] + share * folded[set + half];
                }
            }
            return folded[0] << WHOLE_BITS * (MOST_EVENTS - events);
        }

        private void takeMembers(int vote) {
            size = 0;
            for (int part = 0; part < MOST_PARTS && size < MOST_EVENTS; part++) {
                if (hasBit(votes.partsBelow(vote), part)) {
                    members[size] = part;
                    size++;
                }
            }
            events = size;
        }

        /** Sets go upwards: a set with the struck parts in it is still as it was when it is read. */
        private void workIn(int struck, long share) {
            int sets = 1 << size;
            for (int set = 0; set < sets; set++) {
                bySet[set] = (WHOLE - share) * bySet[set] + share * bySet[set | struck];
            }
            events++;
        }

        private void takeSharesOn(int day) {
            for (int place = 0; place < size; place++) {
                shares[place] = parts.shareOn(members[place], day);
            }
        }

        private long weightAt(int place) {
            int kept = shares[place];
            shares[place] = WHOLE;
            long failing = sum();
            shares[place] = 0;
            long acting = sum();
            shares[place] = kept;
            return failing - acting;
        }
    }

    /** The cheapest PLAN of tests for a vote of few parts. */
    private static final class Planner {
        private final Parts parts;
        private final Odds odds;
        private final int[] intervals = new int[CHOICES];
        private final int[] choices = new int[MOST_PLANNED_PARTS];
        private int bestCost = 0;
        private int bestChoices = 0;

        Planner(Parts parts, Odds odds) {
            this.parts = parts;
            this.odds = odds;
        }

        /** Each from 1 to 100: they divide. */
        void setIntervals(int p, int q, int r) {
            intervals[0] = p;
            intervals[1] = q;
            intervals[2] = r;
        }

        int cheapestCost() {
            return bestCost;
        }

        int cheapestChoices() {
            return bestChoices;
        }

        /** Takes a vote of 3 parts at most; whether one of its plans keeps the law. */
        boolean findCheapest(int vote, long limit) {
            odds.startFailing(vote);
            int plans = 1;
            for (int place = 0; place < odds.memberCount(); place++) {
                plans *= CHOICES;
            }
            boolean found = false;
            // Plans come in the order of their choices, so that of several the first one stays.
            for (int plan = 0; plan < plans; plan++) {
                takeChoices(plan);
                int cost = costOfChoices();
                if ((!found || cost < bestCost) && keepsLaw(limit)) {
                    found = true;
                    bestCost = cost;
                    bestChoices = toldChoices();
                }
            }
            return found;
        }

        /** The lowest part's choice weighs most in the order, though it counts single when told. */
        private void takeChoices(int plan) {
            int rest = plan;
            for (int place = odds.memberCount() - 1; place >= 0; place--) {
                choices[place] = rest % CHOICES;
                rest /= CHOICES;
            }
        }

        private int toldChoices() {
            int told = 0;
            for (int place = odds.memberCount() - 1; place >= 0; place--) {
                told = told * CHOICES + choices[place];
            }
            return told;
        }

        private int costOfChoices() {
            int cost = 0;
            for (int place = 0; place < odds.memberCount(); place++) {
                cost += parts.costOf(odds.memberAt(place)) * (PLANNED_DAYS / intervals[choices[place]]);
            }
            return cost;
        }

        private boolean keepsLaw(long limit) {
            long sum = 0;
            for (int day = 0; day < PLANNED_DAYS && sum <= limit; day++) {
                for (int place = 0; place < odds.memberCount(); place++) {
                    int daysSinceTest = day % intervals[choices[place]];
                    odds.setShare(place, parts.shareAfter(odds.memberAt(place), day, daysSinceTest));
                }
                sum += odds.sum();
            }
            return sum <= limit;
        }
    }
}
