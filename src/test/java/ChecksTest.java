/** Promises 11 to 17: check, limit, usual, total, fails, posted, spread. */
public final class ChecksTest {
    private static final int NONE = RollingLoads.NONE;
    private static final int UNKNOWN = RollingLoads.UNKNOWN;
    private static final int OUTSIDE = RollingLoads.OUTSIDE;
    private static final int FULL = RollingLoads.FULL;

    /** A beam of 12 on its ends; a train of 40 and 40, 3 apart; one of three 25s, 5 apart. */
    private static RollingLoads twoTrains() {
        RollingLoads x = new RollingLoads();
        x.bridge(12, Due.bits(0, 12), 0);
        x.train(40);
        x.axle(0, 3, 40);
        x.train(25);
        x.axle(1, 5, 25);
        x.axle(1, 5, 25);
        return x;
    }

    private static void checks() {
        RollingLoads x = twoTrains();
        Due.due("bridge 1", x.check(1, 0, 0, -1, 1), UNKNOWN);
        Due.due("support 2", x.check(0, 0, 2, -1, 1), UNKNOWN);
        Due.due("kind 2", x.check(0, 2, 0, 1, 0), OUTSIDE);
        Due.due("kind -1", x.check(0, -1, 0, 1, 0), OUTSIDE);
        Due.due("place 13", x.check(0, 1, 13, 1, 0), OUTSIDE);
        Due.due("place -1", x.check(0, 1, -1, 1, 0), OUTSIDE);
        Due.due("high -1", x.check(0, 1, 6, -1, 0), OUTSIDE);
        Due.due("high 100001", x.check(0, 1, 6, 100001, 0), OUTSIDE);
        Due.due("low 1", x.check(0, 1, 6, 1, 1), OUTSIDE);
        Due.due("low -100001", x.check(0, 1, 6, 1, -100001), OUTSIDE);
        Due.due("none yet", x.told(0, 3), 0);
        Due.due("the widest", x.check(0, 1, 12, 100000, -100000), 0);
        Due.due("the tightest", x.check(0, 1, 0, 0, 0), 1);
        Due.due("a support", x.check(0, 0, 1, 1, 0), 2);
        Due.due("one again", x.check(0, 0, 1, 1, 0), 3);
        Due.due("the fifth", x.check(0, 1, 6, 1, 0), 4);
        Due.due("UNKNOWN is ahead of FULL", x.check(0, 0, 2, 1, 0), UNKNOWN);
        Due.due("OUTSIDE is ahead of FULL", x.check(0, 1, 6, 1, 1), OUTSIDE);
        Due.due("the sixth", x.check(0, 1, 6, 1, 0), FULL);
        Due.due("five", x.told(0, 3), 5);
        Due.due("five of all", x.count(3), 5);
        Due.due("the last", x.limit(0, 4, 2, 0), 1);
        Due.due("beyond five", x.limit(0, 5, 2, 0), UNKNOWN);
        Due.due("beyond five: total", x.total(0, 5, 0, 0, 0, 0), UNKNOWN);
        Due.due("the first of five", x.fails(0, 0, 0), 2);
        Due.due("none of them counts without weight", x.posted(0, 0), 2);
    }

    private static void limits() {
        RollingLoads x = twoTrains();
        x.check(0, 1, 6, 180, 0);
        Due.due("180 is enough for a crawl", x.fails(0, 0, 2), NONE);
        Due.due("limit", x.limit(0, 0, 179, 0), 1);
        Due.due("179 is not", x.fails(0, 0, 2), 0);
        Due.due("bridge 1", x.limit(1, 0, -1, 1), UNKNOWN);
        Due.due("check 1", x.limit(0, 1, -1, 1), UNKNOWN);
        Due.due("check -1", x.limit(0, -1, 1, 0), UNKNOWN);
        Due.due("high -1", x.limit(0, 0, -1, 0), OUTSIDE);
        Due.due("high 100001", x.limit(0, 0, 100001, 0), OUTSIDE);
        Due.due("low 1", x.limit(0, 0, 100000, 1), OUTSIDE);
        Due.due("low -100001", x.limit(0, 0, 100000, -100001), OUTSIDE);
        Due.due("refused ones changed nothing", x.fails(0, 0, 2), 0);
        Due.due("the widest", x.limit(0, 0, 100000, -100000), 1);
        Due.due("met", x.fails(0, 0, 0), NONE);
        // The support at 2 of two, at 2 and 6, is lifted: by 40 and a quarter of 40 at the worst.
        x.bridge(10, Due.bits(2, 6), 0);
        x.check(1, 0, 0, 100000, -50);
        Due.due("down to -50", x.fails(1, 0, 2), NONE);
        x.limit(1, 0, 100000, -49);
        Due.due("not down to -49 alone", x.fails(1, 0, 2), 0);
    }

    private static void usuals() {
        RollingLoads x = twoTrains();
        Due.due("train 2", x.usual(2), UNKNOWN);
        Due.due("train -2", x.usual(-2), UNKNOWN);
        Due.due("none before", x.usual(1), NONE);
        Due.due("refused changes nothing", x.usual(2), UNKNOWN);
        Due.due("told", x.count(4), 1);
        Due.due("1 before", x.usual(0), 1);
        Due.due("0 before", x.usual(NONE), 0);
        Due.due("none", x.count(4), NONE);
    }

    private static void total(RollingLoads x, int b, int mode, int end, long upper, long lower) {
        Ratio want = Ratio.of(upper, lower);
        Due.fraction("total of bridge " + b + " mode " + mode + " end " + end,
                x.total(b, 0, 0, mode, end, 0), x.total(b, 0, 0, mode, end, 1), want.part(0), want.part(1));
    }

    private static void totals() {
        RollingLoads x = twoTrains();
        x.check(0, 1, 6, 200, 0);
        total(x, 0, 0, 0, 234, 1);
        total(x, 0, 1, 0, 234, 1);
        total(x, 0, 2, 0, 180, 1);
        total(x, 0, 0, 1, 0, 1);
        x.usual(1);
        total(x, 0, 0, 0, 234, 1);
        // Train 1 has 100: two other lanes of 33 hundredths are 66 more, one of them 33.
        x.rule(0, 1, 3);
        x.rule(0, 2, 33);
        total(x, 0, 0, 0, (180 + 66) * 13, 10);
        total(x, 0, 1, 0, 234, 1);
        total(x, 0, 2, 0, 180, 1);
        x.rule(0, 0, 7);
        total(x, 0, 0, 0, 246 * 107, 100);
        total(x, 0, 1, 0, 180 * 107, 100);
        x.rule(0, 1, 4);
        total(x, 0, 0, 0, 279 * 107, 100);
        x.rule(0, 2, 0);
        total(x, 0, 0, 0, 180 * 107, 100);
        x.usual(NONE);
        x.rule(0, 2, 100);
        total(x, 0, 0, 0, 180 * 107, 100);
        // The least: supports at 2 and 5 of 10, that at 2 is lifted by (5 - a) / 3.
        x.bridge(10, Due.bits(2, 5), 0);
        x.check(1, 0, 0, 1, 0);
        x.usual(1);
        x.rule(1, 1, 2);
        x.rule(1, 0, 10);
        total(x, 1, 2, 1, -280, 3);
        total(x, 1, 1, 1, -308, 3);
        // Of train 1, 125 / 3, half counts.
        total(x, 1, 0, 1, -(2 * 280 + 125) * 11, 60);
        x.usual(NONE);
        total(x, 1, 0, 1, -308, 3);
    }

    private static void totalRefusals() {
        RollingLoads x = twoTrains();
        x.check(0, 1, 6, 200, 0);
        Due.due("bridge 1", x.total(1, 0, 0, 9, 9, 9), UNKNOWN);
        Due.due("check 1", x.total(0, 1, 0, 9, 9, 9), UNKNOWN);
        Due.due("check -1", x.total(0, -1, 0, 0, 0, 0), UNKNOWN);
        Due.due("train 2", x.total(0, 0, 2, 9, 9, 9), UNKNOWN);
        Due.due("mode 3", x.total(0, 0, 0, 3, 0, 0), OUTSIDE);
        Due.due("mode -1", x.total(0, 0, 0, -1, 0, 0), OUTSIDE);
        Due.due("end 2", x.total(0, 0, 0, 0, 2, 0), OUTSIDE);
        Due.due("end -1", x.total(0, 0, 0, 0, -1, 0), OUTSIDE);
        Due.due("what 2", x.total(0, 0, 0, 0, 0, 2), OUTSIDE);
        Due.due("what -1", x.total(0, 0, 0, 0, 0, -1), OUTSIDE);
    }

    private static void fails() {
        RollingLoads x = twoTrains();
        Due.due("without checks", x.fails(0, 0, 0), NONE);
        x.check(0, 0, 0, 100000, 0);
        x.check(0, 1, 6, 233, 0);
        x.check(0, 0, 1, 90, 0);
        Due.due("the first of two", x.fails(0, 0, 0), 1);
        x.limit(0, 1, 234, 0);
        Due.due("234 is at most 234; 91 is above 90", x.fails(0, 0, 0), 2);
        Due.due("crawling", x.fails(0, 0, 2), NONE);
        x.limit(0, 0, 90, 0);
        Due.due("the first of two again", x.fails(0, 0, 0), 0);
        x.limit(0, 0, 100000, 0);
        x.limit(0, 2, 91, 0);
        Due.due("all met", x.fails(0, 0, 0), NONE);
        x.usual(0);
        x.rule(0, 1, 2);
        Due.due("with a lane beside", x.fails(0, 0, 0), 1);
        Due.due("escorted", x.fails(0, 0, 1), NONE);
        Due.due("bridge 1", x.fails(1, 0, 9), UNKNOWN);
        Due.due("train 2", x.fails(0, 2, 9), UNKNOWN);
        Due.due("mode 3", x.fails(0, 0, 3), OUTSIDE);
        Due.due("mode -1", x.fails(0, 0, -1), OUTSIDE);
    }

    private static void posted() {
        RollingLoads x = twoTrains();
        Due.due("without checks", x.posted(0, 0), 300);
        x.check(0, 1, 6, 200, 0);
        // 4.5 times a weight times 1.3 is at most 200 up to 34, and 40 times 87 / 100 is 34.8.
        Due.due("to 34", x.posted(0, 0), 87);
        x.limit(0, 0, 0, 0);
        Due.due("to nothing of 40", x.posted(0, 0), 2);
        Due.due("to nothing of 25", x.posted(0, 1), 3);
        x.train(200);
        Due.due("to nothing of 200", x.posted(0, 2), 0);
        x.limit(0, 0, 702, 0);
        Due.due("all that can be posted", x.posted(0, 0), 300);
        x.limit(0, 0, 701, 0);
        Due.due("a little less", x.posted(0, 0), 299);
        // The others alone are too much: not even 0; and they are not made lighter with the train.
        x.usual(0);
        x.rule(0, 1, 3);
        x.limit(0, 0, 233, 0);
        Due.due("not even with 0", x.posted(0, 0), NONE);
        x.limit(0, 0, 234, 0);
        Due.due("with 0", x.posted(0, 0), 2);
        Due.due("bridge 1", x.posted(1, 0), UNKNOWN);
        Due.due("train 3", x.posted(0, 3), UNKNOWN);
        Due.due("train -1", x.posted(0, NONE), UNKNOWN);
    }

    /** 29 hundredths of 10 and 9 are 2 and 2, which meet; 22 of them are 2 and 1, which do not. */
    private static void postedBeyondAGap() {
        RollingLoads x = new RollingLoads();
        x.bridge(6, Due.bits(1, 5), 0);
        x.rule(0, 0, 0);
        x.train(10);
        x.axle(0, 3, 9);
        x.train(2);
        x.axle(1, 3, 1);
        x.check(0, 1, 3, 1, -26);
        Due.due("2 and 1", x.fails(0, 1, 0), 0);
        Due.due("posted", x.posted(0, 0), 29);
    }

    private static void spread() {
        RollingLoads x = twoTrains();
        Due.due("without checks", x.spread(0, 0, 0), 0);
        x.check(0, 1, 6, 200, 0);
        x.check(0, 0, 0, 70, 0);
        Due.due("crawling, as it is", x.spread(0, 0, 2), 0);
        // 40 and 40 (9 - k) / 12 are at most 70 / 1.3 from k = 5 on.
        Due.due("free", x.spread(0, 0, 0), 5);
        Due.due("escorted", x.spread(0, 0, 1), 5);
        // 52 is 1.3 times 40: only one axle may be on the beam, or the other at its far end.
        x.limit(0, 0, 156, 0);
        x.limit(0, 1, 52, 0);
        Due.due("one axle at a time", x.spread(0, 0, 1), 9);
        x.limit(0, 1, 51, 0);
        Due.due("never", x.spread(0, 0, 1), NONE);
        x.limit(0, 1, 52, 0);
        x.usual(0);
        x.rule(0, 1, 2);
        Due.due("never with others, whose gaps stay", x.spread(0, 0, 0), NONE);
        Due.due("bridge 1", x.spread(1, 0, 9), UNKNOWN);
        Due.due("train 2", x.spread(0, 2, 9), UNKNOWN);
        Due.due("mode 3", x.spread(0, 0, 3), OUTSIDE);
        Due.due("mode -1", x.spread(0, 0, -1), OUTSIDE);
        Due.due("the train keeps its gaps", x.axles(0, NONE, 1), 3);
        Due.due("and its weights", x.axles(0, 1, 0), 40);
    }

    /** Gaps of 20 that grow by up to 20, on the longest beam: the longest roll of all. */
    private static void widestSpread() {
        RollingLoads x = new RollingLoads();
        x.bridge(60, Due.bits(0, 60), 0);
        x.train(100);
        for (int n = 2; n <= 8; n++) {
            x.axle(0, 20, 100);
        }
        x.rule(0, 0, 0);
        x.check(0, 0, 0, 133, 0);
        Due.due("two at a time, 40 apart, are 133 and a third", x.spread(0, 0, 0), NONE);
        x.limit(0, 0, 134, 0);
        Due.due("134", x.spread(0, 0, 0), 20);
        // A support at 10 is lifted by a load at 60 alone, and so it is most at the very last time,
        // with the heavy axle there and nothing behind it.
        x.bridge(60, Due.bits(10, 50), 0);
        x.rule(1, 0, 0);
        x.train(4);
        for (int n = 2; n <= 8; n++) {
            x.axle(1, 20, n < 8 ? 4 : 200);
        }
        x.check(1, 0, 0, 100000, -49);
        Due.due("lifted by 50, however it is spread", x.spread(1, 1, 0), NONE);
        x.limit(1, 0, 100000, -50);
        Due.due("which may be", x.spread(1, 1, 0), 0);
    }

    /** Two checks that fail in turn: each p and each k is held against both. */
    private static void triedOneAfterTheOther() {
        RollingLoads x = twoTrains();
        x.rule(0, 0, 0);
        x.check(0, 0, 0, 70, 0);
        x.check(0, 0, 1, 69, 0);
        Due.due("the second check is met later", x.posted(0, 0), 99);
        Due.due("the second check wants more room", x.spread(0, 0, 0), 1);
        x.limit(0, 0, 55, 0);
        Due.due("the first check is met later", x.posted(0, 0), 79);
        Due.due("the first check wants more room", x.spread(0, 0, 0), 5);
    }

    public static void main(String[] args) {
        checks();
        limits();
        usuals();
        totals();
        totalRefusals();
        fails();
        posted();
        postedBeyondAGap();
        spread();
        widestSpread();
        triedOneAfterTheOther();
        Due.end();
    }
}
