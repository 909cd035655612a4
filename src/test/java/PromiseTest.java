/** Each promise by hand: ordinary inputs, the edges that the document names, wrong inputs. */
public final class PromiseTest {
    private static final int BAD = -1, NO = -2, FULL = -3, NONE = -4;
    private static final long CERTAIN = 281474976710656L;
    private static final int[] NO_DAYS = {-1, 1000, Integer.MIN_VALUE, Integer.MAX_VALUE};
    private static final int[] NO_SHARES = {-1, 65, Integer.MIN_VALUE, Integer.MAX_VALUE};

    private static Check check;

    public static void main(String[] args) {
        check = new Check("PromiseTest");
        newObject();
        part();
        test();
        noTests();
        bypass();
        bypassed();
        group();
        vote();
        share();
        below();
        shared();
        chance();
        chanceOfGroups();
        over();
        broken();
        nothing();
        matters();
        most();
        cost();
        plan();
        planOrder();
        count();
        deepVotes();
        wideVotes();
        check.end();
    }

    private static SaveLoops withParts(int parts) {
        SaveLoops x = new SaveLoops();
        for (int i = 0; i < parts; i++) {
            x.part(8, 0, 16);
        }
        return x;
    }

    private static void newObject() {
        SaveLoops x = new SaveLoops();
        for (int what = 0; what < 5; what++) {
            check.due("new: count " + what, 0, x.count(what));
        }
        check.due("new: share", BAD, x.share(0, 0));
        check.due("new: chance", BAD, x.chance(0, 0));
        SaveLoops other = new SaveLoops();
        x.part(1, 1, 1);
        check.due("two objects know nothing of each other", 0, other.count(0));
    }

    private static void part() {
        SaveLoops x = new SaveLoops();
        for (int wrong : NO_SHARES) {
            check.due("part b", BAD, x.part(wrong, 0, 0));
            check.due("part a", BAD, x.part(0, wrong, 0));
            check.due("part z", BAD, x.part(0, 0, wrong));
        }
        check.due("part least", 0, x.part(0, 0, 0));
        check.due("part greatest", 1, x.part(64, 64, 64));
        for (int i = 2; i < 12; i++) {
            check.due("part next", i, x.part(1, 2, 3));
        }
        check.due("part full", FULL, x.part(1, 2, 3));
        check.due("part bad before full", BAD, x.part(65, 2, 3));
    }

    private static void test() {
        SaveLoops x = withParts(2);
        check.due("test part", BAD, x.test(2, 0));
        check.due("test part -1", BAD, x.test(-1, 0));
        for (int wrong : NO_DAYS) {
            check.due("test day", BAD, x.test(0, wrong));
        }
        check.due("test day 0", 1, x.test(0, 0));
        check.due("test the same day", NO, x.test(0, 0));
        check.due("test behind", 2, x.test(0, 5));
        check.due("test before", NO, x.test(0, 4));
        check.due("tests of each part by itself", 1, x.test(1, 3));
        for (int i = 3; i <= 12; i++) {
            check.due("test next", i, x.test(0, 10 * i));
        }
        check.due("test full", FULL, x.test(0, 121));
        check.due("test no before full", NO, x.test(0, 120));
        check.due("test bad before full", BAD, x.test(0, 1000));
        check.due("test last day", 2, x.test(1, 999));
    }

    private static void noTests() {
        SaveLoops x = withParts(2);
        check.due("noTests part", BAD, x.noTests(2, 0));
        for (int wrong : NO_DAYS) {
            check.due("noTests day", BAD, x.noTests(0, wrong));
        }
        check.due("noTests none there", 0, x.noTests(0, 0));
        x.test(0, 3);
        x.test(0, 6);
        x.test(0, 9);
        x.test(1, 9);
        check.due("noTests behind all", 0, x.noTests(0, 10));
        check.due("noTests from the day itself", 2, x.noTests(0, 6));
        check.due("noTests left the other part alone", 2, x.count(1));
        check.due("a test fits again behind what is left", 2, x.test(0, 4));
        check.due("noTests all", 2, x.noTests(0, 0));
        check.due("a test on day 0 fits again", 1, x.test(0, 0));
    }

    private static void bypass() {
        SaveLoops x = withParts(2);
        check.due("bypass part", BAD, x.bypass(2, 0, 0));
        for (int wrong : NO_DAYS) {
            check.due("bypass x", BAD, x.bypass(0, wrong, 999));
            check.due("bypass y", BAD, x.bypass(0, 0, wrong));
        }
        check.due("bypass backwards", BAD, x.bypass(0, 1, 0));
        check.due("bypass one day", 1, x.bypass(0, 0, 0));
        check.due("bypass all days", 2, x.bypass(1, 0, 999));
        for (int i = 3; i <= 20; i++) {
            check.due("bypass the same again", i, x.bypass(0, 7, 8));
        }
        check.due("bypass full", FULL, x.bypass(0, 7, 8));
        check.due("bypass bad before full", BAD, x.bypass(0, 8, 7));
    }

    private static void bypassed() {
        SaveLoops x = withParts(2);
        x.bypass(0, 10, 20);
        x.bypass(0, 15, 25);
        x.bypass(0, 63, 64);
        x.bypass(0, 999, 999);
        x.bypass(1, 0, 999);
        check.due("bypassed part", BAD, x.bypassed(2, 0, 0));
        for (int wrong : NO_DAYS) {
            check.due("bypassed x", BAD, x.bypassed(0, wrong, 999));
            check.due("bypassed y", BAD, x.bypassed(0, 0, wrong));
        }
        check.due("bypassed backwards", BAD, x.bypassed(0, 11, 10));
        check.due("days in two bypasses count once", 19, x.bypassed(0, 0, 999));
        check.due("bypassed inside", 3, x.bypassed(0, 14, 16));
        check.due("bypassed at the edges", 1, x.bypassed(0, 25, 62));
        check.due("bypassed between", 0, x.bypassed(0, 26, 62));
        check.due("bypassed over a border of 64", 2, x.bypassed(0, 60, 70));
        check.due("bypassed last day", 1, x.bypassed(0, 999, 999));
        check.due("bypassed all", 1000, x.bypassed(1, 0, 999));
        check.due("bypassed days that are asked alone", 200, x.bypassed(1, 300, 499));
    }

    private static void group() {
        SaveLoops x = withParts(3);
        for (int wrong : NO_SHARES) {
            check.due("group c", BAD, x.group(wrong, 3));
        }
        check.due("group none", BAD, x.group(1, 0));
        check.due("group one", BAD, x.group(1, 4));
        check.due("group part that is none", BAD, x.group(1, 9));
        check.due("group part 31", BAD, x.group(1, Integer.MIN_VALUE | 3));
        check.due("group -1", BAD, x.group(1, -1));
        check.due("group", 0, x.group(0, 3));
        check.due("group", 1, x.group(64, 7));
        check.due("group the same", 2, x.group(64, 7));
        check.due("group", 3, x.group(1, 6));
        check.due("group full", FULL, x.group(1, 6));
        check.due("group bad before full", BAD, x.group(1, 8));
        SaveLoops all = withParts(12);
        check.due("group of bit 12", BAD, all.group(1, 4097));
        check.due("group of all", 0, all.group(1, 4095));
    }

    private static void vote() {
        SaveLoops x = withParts(2);
        check.due("vote n 0", BAD, x.vote(0, 0, 0, 0, 0, 0));
        check.due("vote n 5", BAD, x.vote(1, 5, 0, 0, 0, 0));
        check.due("vote n least", BAD, x.vote(1, Integer.MIN_VALUE, 0, 0, 0, 0));
        check.due("vote k 0", BAD, x.vote(0, 2, 0, 1, 0, 0));
        check.due("vote k above n", BAD, x.vote(3, 2, 0, 1, 0, 0));
        check.due("vote part that is none", BAD, x.vote(1, 2, 0, 2, 0, 0));
        check.due("vote -1", BAD, x.vote(1, 1, -1, 0, 0, 0));
        check.due("vote itself", BAD, x.vote(1, 1, 12, 0, 0, 0));
        check.due("vote greatest input", BAD, x.vote(1, 1, Integer.MAX_VALUE, 0, 0, 0));
        check.due("vote least input", BAD, x.vote(1, 1, Integer.MIN_VALUE, 0, 0, 0));
        check.due("vote other inputs are not looked at", 0, x.vote(1, 1, 1, -1, 77, 2));
        check.due("vote second looked at", BAD, x.vote(1, 2, 1, -1, 0, 0));
        check.due("vote third looked at", BAD, x.vote(1, 3, 1, 1, -1, 0));
        check.due("vote fourth looked at", BAD, x.vote(1, 4, 1, 1, 1, -1));
        check.due("vote of a vote", 1, x.vote(2, 4, 12, 12, 0, 1));
        check.due("vote of a vote not there", BAD, x.vote(1, 1, 14, 0, 0, 0));
        for (int i = 2; i < 12; i++) {
            check.due("vote next", i, x.vote(1, 1, 11 + i, 0, 0, 0));
        }
        check.due("vote full", FULL, x.vote(1, 1, 0, 0, 0, 0));
        check.due("vote of the last vote, full", FULL, x.vote(1, 1, 23, 0, 0, 0));
        check.due("vote bad before full", BAD, x.vote(1, 1, 24, 0, 0, 0));
    }

    private static void share() {
        SaveLoops x = new SaveLoops();
        x.part(3, 2, 0);
        check.due("share part", BAD, x.share(1, 0));
        check.due("share part -1", BAD, x.share(-1, 0));
        for (int wrong : NO_DAYS) {
            check.due("share day", BAD, x.share(0, wrong));
        }
        check.due("share on day 0", 3, x.share(0, 0));
        check.due("share grows from day 0", 23, x.share(0, 10));
        check.due("share below the whole", 63, x.share(0, 30));
        check.due("share is the whole at most", 64, x.share(0, 31));
        x.test(0, 10);
        x.test(0, 40);
        check.due("share before the first test", 21, x.share(0, 9));
        check.due("share on the day of a test", 3, x.share(0, 10));
        check.due("share between tests", 5, x.share(0, 11));
        check.due("share before the second test", 61, x.share(0, 39));
        check.due("share on the second test", 3, x.share(0, 40));
        x.bypass(0, 40, 41);
        check.due("share before the bypass", 61, x.share(0, 39));
        check.due("share on the bypass's first day", 64, x.share(0, 40));
        check.due("share on the bypass's last day", 64, x.share(0, 41));
        check.due("share behind it counts from the test", 7, x.share(0, 42));
        x.part(64, 64, 0);
        check.due("share on the last day", 64, x.share(1, 999));
    }

    private static void below() {
        SaveLoops x = withParts(5);
        x.vote(1, 2, 0, 3, 0, 0);
        x.vote(1, 3, 12, 4, 4, 0);
        x.group(1, 6);
        x.group(1, 10);
        x.group(1, 17);
        check.due("below vote", BAD, x.below(2, 0));
        check.due("below vote -1", BAD, x.below(-1, 0));
        check.due("below what", BAD, x.below(0, 3));
        check.due("below what -1", BAD, x.below(0, -1));
        check.due("below parts", 9, x.below(0, 0));
        check.due("below groups", 6, x.below(0, 1));
        check.due("below events", 4, x.below(0, 2));
        check.due("below parts of votes", 25, x.below(1, 0));
        check.due("below events, a part once", 5, x.below(1, 2));
    }

    private static void shared() {
        SaveLoops x = withParts(6);
        x.vote(1, 2, 0, 1, 0, 0);
        x.vote(1, 2, 1, 2, 0, 0);
        x.vote(1, 2, 4, 5, 0, 0);
        x.group(1, 48);
        x.group(1, 33);
        check.due("shared vote", BAD, x.shared(3, 0));
        check.due("shared other", BAD, x.shared(0, 3));
        check.due("shared -1", BAD, x.shared(0, -1));
        check.due("shared part", 2, x.shared(0, 1));
        check.due("shared group without a shared part", 8192, x.shared(0, 2));
        check.due("shared the other way", 8192, x.shared(2, 0));
        check.due("shared none", 0, x.shared(1, 2));
        check.due("shared with itself", 48 + 4096 + 8192, x.shared(2, 2));
    }

    private static void chance() {
        SaveLoops x = new SaveLoops();
        x.part(16, 0, 0);
        x.part(32, 0, 0);
        x.vote(1, 2, 0, 1, 0, 0);
        x.vote(2, 2, 0, 1, 0, 0);
        x.vote(2, 2, 0, 0, 0, 0);
        x.vote(2, 3, 0, 0, 1, 0);
        check.due("chance vote", BAD, x.chance(4, 0));
        check.due("chance vote -1", BAD, x.chance(-1, 0));
        for (int wrong : NO_DAYS) {
            check.due("chance day", BAD, x.chance(0, wrong));
        }
        check.due("chance 1 of 2", CERTAIN / 8, x.chance(0, 0));
        check.due("chance 2 of 2", CERTAIN * 5 / 8, x.chance(1, 0));
        check.due("chance of the same twice", CERTAIN / 4, x.chance(2, 0));
        check.due("chance where the same counts twice", CERTAIN / 4, x.chance(3, 0));
        x.bypass(0, 4, 4);
        check.due("chance on a bypass", CERTAIN / 2, x.chance(0, 4));
        check.due("chance behind a bypass", CERTAIN / 8, x.chance(0, 5));
        SaveLoops many = withParts(9);
        many.vote(1, 4, 0, 1, 2, 3);
        many.vote(1, 4, 4, 5, 6, 7);
        many.vote(1, 2, 12, 13, 0, 0);
        many.vote(1, 2, 14, 8, 0, 0);
        check.due("chance of 8 events, to the last of 2^48", 1L << 24, many.chance(2, 0));
        check.due("chance of 9 events", NO, many.chance(3, 0));
        check.due("chance bad before no", BAD, many.chance(3, 1000));
        many.group(0, 384);
        check.due("a group without share is an event too", NO, many.chance(2, 0));
        check.due("chance of votes that it does not strike", CERTAIN / 4096, many.chance(0, 0));
    }

    private static void chanceOfGroups() {
        SaveLoops x = new SaveLoops();
        x.part(0, 0, 0);
        x.part(0, 0, 0);
        x.part(16, 0, 0);
        x.vote(1, 2, 0, 1, 0, 0);
        x.vote(1, 3, 0, 1, 2, 0);
        x.group(8, 3);
        check.due("a cause strikes all its parts", CERTAIN / 8, x.chance(0, 0));
        check.due("a cause leaves others", CERTAIN / 32, x.chance(1, 0));
        x.group(32, 5);
        check.due("two causes", CERTAIN / 8, x.chance(0, 0));
        check.due("two causes that together strike all", CERTAIN * 5 / 64 , x.chance(1, 0));
        x.group(64, 6);
        check.due("a sure cause", CERTAIN * (64 - 28) / 64, x.chance(0, 0));
    }

    private static void over() {
        SaveLoops x = new SaveLoops();
        x.part(0, 1, 0);
        x.vote(1, 1, 0, 0, 0, 0);
        check.due("over vote", BAD, x.over(1, 0, 0));
        for (int wrong : NO_DAYS) {
            check.due("over x", BAD, x.over(0, wrong, 999));
            check.due("over y", BAD, x.over(0, 900, wrong));
        }
        check.due("over backwards", BAD, x.over(0, 5, 4));
        check.due("over 201 days", BAD, x.over(0, 799, 999));
        check.due("over 200 days", 200 * CERTAIN, x.over(0, 800, 999));
        check.due("over one day", CERTAIN / 64 * 7, x.over(0, 7, 7));
        check.due("over days, both with", CERTAIN / 64 * (2 + 3 + 4), x.over(0, 2, 4));
        SaveLoops many = crowded();
        check.that("over 8 events", many.over(0, 0, 1) > 0);
        check.due("over 9 events", NO, many.over(1, 0, 1));
        check.due("over bad before no", BAD, many.over(1, 0, 200));
    }

    /** Vote 0 has 4 parts and 4 causes, which is as many as may be; vote 1 has a part more. */
    private static SaveLoops crowded() {
        SaveLoops x = withParts(6);
        x.vote(1, 4, 0, 1, 2, 3);
        x.vote(1, 2, 12, 4, 0, 0);
        for (int i = 0; i < 4; i++) {
            x.group(1, 3);
        }
        return x;
    }

    private static void broken() {
        SaveLoops x = new SaveLoops();
        x.part(0, 1, 0);
        x.vote(1, 1, 0, 0, 0, 0);
        check.due("broken vote", BAD, x.broken(1, 0, 0, 0));
        for (int wrong : NO_DAYS) {
            check.due("broken x", BAD, x.broken(0, wrong, 999, 0));
            check.due("broken y", BAD, x.broken(0, 900, wrong, 0));
        }
        check.due("broken backwards", BAD, x.broken(0, 5, 4, 0));
        check.due("broken 201 days", BAD, x.broken(0, 0, 200, 0));
        check.due("broken limit -1", BAD, x.broken(0, 0, 9, -1));
        check.due("broken limit above the whole", BAD, x.broken(0, 0, 9, CERTAIN + 1));
        check.due("broken greatest limit", BAD, x.broken(0, 0, 9, Long.MAX_VALUE));
        check.due("broken limit 0", 1, x.broken(0, 0, 199, 0));
        check.due("broken is above the limit", 8, x.broken(0, 0, 199, CERTAIN / 64 * 7));
        check.due("broken a little lower", 7, x.broken(0, 0, 199, CERTAIN / 64 * 7 - 1));
        check.due("broken from x on", 20, x.broken(0, 20, 30, CERTAIN / 64 * 7));
        check.due("broken on the last day", 8, x.broken(0, 0, 8, CERTAIN / 64 * 7));
        check.due("broken not yet", NONE, x.broken(0, 0, 7, CERTAIN / 64 * 7));
        check.due("broken never above the whole", NONE, x.broken(0, 800, 999, CERTAIN));
        x.test(0, 5);
        check.due("broken later for a test", 13, x.broken(0, 0, 199, CERTAIN / 64 * 7));
        SaveLoops many = crowded();
        check.due("broken 8 events", 0, many.broken(0, 0, 1, 0));
        check.due("broken 9 events", NO, many.broken(1, 0, 1, 0));
        check.due("broken bad before no", BAD, many.broken(1, 0, 1, -1));
    }

    private static void nothing() {
        SaveLoops x = new SaveLoops();
        x.part(64, 64, 16);
        x.part(0, 0, 32);
        x.vote(1, 2, 0, 1, 0, 0);
        x.vote(2, 2, 0, 1, 0, 0);
        x.vote(2, 2, 1, 1, 0, 0);
        check.due("nothing vote", BAD, x.nothing(3));
        check.due("nothing vote -1", BAD, x.nothing(-1));
        check.due("nothing 1 of 2", CERTAIN * 5 / 8, x.nothing(0));
        check.due("nothing 2 of 2", CERTAIN / 8, x.nothing(1));
        check.due("nothing of the same twice", CERTAIN / 2, x.nothing(2));
        x.group(64, 3);
        x.bypass(0, 0, 999);
        check.due("nothing knows no groups and no bypasses", CERTAIN * 5 / 8, x.nothing(0));
        SaveLoops many = withParts(9);
        many.vote(4, 4, 0, 1, 2, 3);
        many.vote(4, 4, 4, 5, 6, 7);
        many.vote(2, 2, 12, 13, 0, 0);
        many.vote(2, 2, 14, 8, 0, 0);
        many.group(1, 3);
        check.due("nothing of 8 parts beside a group", 1L << 32, many.nothing(2));
        check.due("nothing of 9 parts", NO, many.nothing(3));
    }

    private static void matters() {
        SaveLoops x = new SaveLoops();
        x.part(16, 0, 0);
        x.part(32, 1, 0);
        x.part(0, 0, 0);
        x.vote(1, 2, 0, 1, 0, 0);
        x.vote(2, 2, 0, 1, 0, 0);
        check.due("matters vote", BAD, x.matters(2, 0, 0));
        check.due("matters part", BAD, x.matters(0, 3, 0));
        check.due("matters part -1", BAD, x.matters(0, -1, 0));
        for (int wrong : NO_DAYS) {
            check.due("matters day", BAD, x.matters(0, 0, wrong));
        }
        check.due("matters where the other must fail", CERTAIN / 2, x.matters(0, 0, 0));
        check.due("matters on a later day", CERTAIN / 64 * 40, x.matters(0, 0, 8));
        check.due("matters of the other", CERTAIN / 4, x.matters(0, 1, 0));
        check.due("matters where the other must act", CERTAIN * 3 / 4, x.matters(1, 1, 0));
        check.due("matters of a part that is not below", 0, x.matters(0, 2, 0));
        x.bypass(0, 5, 5);
        check.due("matters of a bypassed part is as ever", CERTAIN / 64 * 37, x.matters(0, 0, 5));
        check.due("matters beside a bypassed part", CERTAIN, x.matters(0, 1, 5));
        x.group(16, 5);
        check.due("a cause strikes still", CERTAIN / 64 * 24, x.matters(0, 0, 0));
        SaveLoops many = crowded();
        check.that("matters 8 events", many.matters(0, 0, 0) > 0);
        check.due("matters 9 events", NO, many.matters(1, 0, 0));
        check.due("matters 9 events, a part not below", NO, many.matters(1, 5, 0));
        check.due("matters bad before no", BAD, many.matters(1, 6, 0));
    }

    private static void most() {
        SaveLoops x = new SaveLoops();
        x.part(40, 0, 0);
        x.part(16, 0, 0);
        x.part(32, 1, 0);
        x.vote(1, 2, 1, 2, 0, 0);
        x.vote(2, 2, 1, 2, 0, 0);
        x.vote(2, 3, 0, 1, 1, 0);
        check.due("most vote", BAD, x.most(3, 0));
        for (int wrong : NO_DAYS) {
            check.due("most day", BAD, x.most(0, wrong));
        }
        check.due("most where one must act", 1, x.most(0, 0));
        check.due("most where both must act", 2, x.most(1, 0));
        check.due("most of one that is alone in mattering", 1, x.most(2, 0));
        x.bypass(1, 3, 3);
        check.due("most on another day", 2, x.most(0, 3));
        x.group(64, 6);
        check.due("most where none matters", 1, x.most(0, 0));
        SaveLoops even = withParts(4);
        even.vote(2, 3, 3, 2, 1, 0);
        check.due("most of several alike", 1, even.most(0, 0));
        SaveLoops many = crowded();
        // Its causes strike parts 0 and 1, so that these matter less.
        check.due("most 8 events", 2, many.most(0, 0));
        check.due("most 9 events", NO, many.most(1, 0));
        check.due("most bad before no", BAD, many.most(1, -1));
    }

    private static void cost() {
        SaveLoops x = withParts(2);
        check.due("cost part", BAD, x.cost(2, 1));
        check.due("cost part -1", BAD, x.cost(-1, 1));
        check.due("cost -1", BAD, x.cost(0, -1));
        check.due("cost 1001", BAD, x.cost(0, 1001));
        check.due("cost at first", 1, x.cost(0, 1000));
        check.due("cost changed", 1000, x.cost(0, 0));
        check.due("cost least", 0, x.cost(0, 5));
        check.due("cost of the other", 1, x.cost(1, 7));
    }

    private static void plan() {
        SaveLoops x = new SaveLoops();
        x.part(0, 1, 0);
        x.vote(1, 1, 0, 0, 0, 0);
        long day = CERTAIN / 64;
        check.due("plan vote", BAD, x.plan(1, 1, 1, 1, 0, 0));
        for (int wrong : new int[] {0, 101, -1, Integer.MIN_VALUE, Integer.MAX_VALUE}) {
            check.due("plan p", BAD, x.plan(0, wrong, 1, 1, 0, 0));
            check.due("plan q", BAD, x.plan(0, 1, wrong, 1, 0, 0));
            check.due("plan r", BAD, x.plan(0, 1, 1, wrong, 0, 0));
        }
        check.due("plan limit -1", BAD, x.plan(0, 1, 1, 1, -1, 0));
        check.due("plan limit above", BAD, x.plan(0, 1, 1, 1, 100 * CERTAIN + 1, 0));
        check.due("plan what 2", BAD, x.plan(0, 1, 1, 1, 0, 2));
        check.due("plan what -1", BAD, x.plan(0, 1, 1, 1, 0, -1));
        check.due("plan of one day", 100, x.plan(0, 1, 100, 100, 0, 0));
        check.due("plan at the limit", 50, x.plan(0, 1, 2, 3, 50 * day, 0));
        check.due("plan at the limit, choice", 1, x.plan(0, 1, 2, 3, 50 * day, 1));
        check.due("plan below the limit", 100, x.plan(0, 1, 2, 3, 50 * day - 1, 0));
        // Every 3 days: 33 times 0, 1 and 2, and day 99 on which it is tested.
        check.due("plan cost is cut", 33, x.plan(0, 1, 2, 3, 99 * day, 0));
        check.due("plan none", NONE, x.plan(0, 2, 2, 2, 50 * day - 1, 0));
        check.due("plan none, choices", NONE, x.plan(0, 2, 2, 2, 50 * day - 1, 1));
        x.test(0, 1);
        x.test(0, 2);
        check.due("plan stands instead of tests", 50, x.plan(0, 1, 2, 3, 50 * day, 0));
        check.due("plan leaves tests", 2, x.count(1));
        check.due("plan leaves shares", 1, x.share(0, 3));
        x.bypass(0, 99, 100);
        check.due("a bypass counts in a plan", NONE, x.plan(0, 1, 1, 1, 64 * day - 1, 0));
        check.due("a bypass counts for its days below 100", 100, x.plan(0, 1, 1, 1, 64 * day, 0));
        planRefusals();
    }

    private static void planRefusals() {
        SaveLoops many = crowded();
        check.due("plan of 4 parts", NO, many.plan(0, 1, 1, 1, 0, 0));
        check.due("plan bad before no", BAD, many.plan(0, 1, 1, 0, 0, 0));
        many.vote(1, 4, 0, 1, 2, 0);
        check.due("plan of 3 parts and 4 causes", 3, many.plan(2, 100, 100, 100, 100 * CERTAIN, 0));
        SaveLoops nested = withParts(4);
        nested.vote(1, 3, 0, 1, 2, 0);
        nested.vote(1, 2, 12, 3, 0, 0);
        check.due("plan of 4 parts below votes", NO, nested.plan(1, 1, 1, 1, 100 * CERTAIN, 0));
    }

    private static void planOrder() {
        SaveLoops x = new SaveLoops();
        for (int i = 0; i < 5; i++) {
            x.part(0, 1, 0);
        }
        x.vote(3, 3, 4, 1, 3, 0);
        long whole = 100 * CERTAIN;
        check.due("plan all choices alike", 0, x.plan(0, 7, 7, 7, whole, 1));
        check.due("plan dearest first, third wanted", 26, x.plan(0, 1, 2, 100, whole, 1));
        check.due("plan dearest first, cost", 3, x.plan(0, 1, 2, 100, whole, 0));
        x.cost(1, 0);
        check.due("plan lowest part for nothing counts single", 24, x.plan(0, 1, 2, 100, whole, 1));
        x.cost(1, 1);
        x.cost(4, 0);
        check.due("plan highest part for nothing", 8, x.plan(0, 1, 2, 100, whole, 1));
        x.cost(4, 1);
        // With intervals 1, 2, 2 and a limit that one part of interval 2 fits in, but not two.
        long one = CERTAIN / 64 * 50;
        check.due("plan of several alike: the least from the lowest part on", 9, x.plan(0, 1, 2, 2, one, 1));
        check.due("plan of several alike: cost", 250, x.plan(0, 1, 2, 2, one, 0));
        x.cost(3, 0);
        check.due("plan of two alike", 9, x.plan(0, 1, 2, 2, one, 1));
        x.cost(4, 0);
        check.due("plan where the lowest part alone costs", 1, x.plan(0, 1, 2, 2, one, 1));
    }

    private static void count() {
        SaveLoops x = withParts(3);
        x.test(0, 1);
        x.test(0, 2);
        x.test(1, 1);
        x.bypass(0, 1, 1);
        x.group(1, 3);
        x.group(1, 3);
        x.vote(1, 1, 0, 0, 0, 0);
        check.due("count parts", 3, x.count(0));
        check.due("count tests", 3, x.count(1));
        check.due("count bypasses", 1, x.count(2));
        check.due("count groups", 2, x.count(3));
        check.due("count votes", 1, x.count(4));
        check.due("count -1", BAD, x.count(-1));
        check.due("count 5", BAD, x.count(5));
        x.noTests(0, 2);
        check.due("count tests that are left", 2, x.count(1));
    }

    /** Each vote asks the one before it four times: to follow every way would not end in time. */
    private static void deepVotes() {
        SaveLoops x = new SaveLoops();
        x.part(16, 0, 32);
        x.vote(1, 1, 0, 0, 0, 0);
        for (int i = 1; i < 12; i++) {
            x.vote(1 + i % 4, 4, 11 + i, 11 + i, 11 + i, 11 + i);
        }
        check.due("chance through 12 votes", CERTAIN / 4, x.chance(11, 0));
        check.due("nothing through 12 votes", CERTAIN / 2, x.nothing(11));
        check.due("over through 12 votes", CERTAIN / 4 * 200, x.over(11, 0, 199));
    }

    /** Votes of 8 parts, one behind another, and votes of one part among them: each stays itself. */
    private static void wideVotes() {
        SaveLoops x = new SaveLoops();
        for (int i = 0; i < 9; i++) {
            x.part(32, 0, 32);
        }
        x.vote(1, 4, 0, 1, 2, 3);
        x.vote(1, 4, 4, 5, 6, 7);
        x.vote(1, 2, 12, 13, 0, 0);
        x.vote(1, 1, 0, 0, 0, 0);
        x.vote(2, 2, 12, 13, 0, 0);
        x.vote(4, 4, 0, 1, 2, 3);
        x.vote(2, 2, 17, 13, 0, 0);
        x.vote(4, 4, 4, 5, 6, 7);
        x.vote(2, 2, 17, 19, 0, 0);
        x.vote(1, 1, 7, 0, 0, 0);
        x.vote(1, 2, 17, 19, 0, 0);
        x.vote(2, 4, 17, 12, 13, 19);
        long[] failing = {16, 16, 1, 128, 31, 240, 241, 240, 255, 128, 225, 29};
        for (int vote = 0; vote < 12; vote++) {
            check.due("wide chance " + vote, CERTAIN / 256 * failing[vote], x.chance(vote, 0));
            check.due("wide nothing " + vote, CERTAIN / 256 * (256 - failing[vote]), x.nothing(vote));
        }
        check.due("most of 8 parts", 0, x.most(2, 0));
        check.due("matters of a part beside 8", 0, x.matters(2, 8, 0));
        check.due("matters of the last of 8", CERTAIN / 128, x.matters(2, 7, 0));
    }
}
