import java.lang.management.ManagementFactory;
import java.util.Arrays;

/** What several promises share: 'What it is', the first paragraph of 'Terms' (0), and its parts 1 to 5. */
public final class TermsTest {
    private static final int NONE = RollingLoads.NONE;
    private static final int UNKNOWN = RollingLoads.UNKNOWN;
    private static final int OUTSIDE = RollingLoads.OUTSIDE;
    private static final int NOT = RollingLoads.NOT;
    private static final int FULL = RollingLoads.FULL;
    private static final int MAX_CALLS = 512;

    // ---- what it is: 512 calls

    private static void whatItIs_theLastOf512CallsAnswersAsTheFirst() {
        RollingLoads x = Made.twoTrains();
        x.check(0, 1, 6, 200, 0);
        int made = 7;
        int alike = 0;
        for (int call = made; call < MAX_CALLS - 1; call++) {
            alike += x.spread(0, 0, 0) == 2 ? 1 : 0;
        }
        Due.due("spreads that are 2", alike, MAX_CALLS - 1 - made);
        Due.due("posted, call 512", x.posted(0, 0), 87);
    }

    private static void whatItIs_512RefusedCallsLeaveRoom() {
        RollingLoads x = new RollingLoads();
        for (int call = 0; call < 500; call++) {
            Due.due("loose", x.bridge(10, Due.bits(0, 2, 4), Due.bits(6)), NOT);
        }
        for (int b = 0; b < 6; b++) {
            Due.due("a bridge", x.bridge(10, Due.bits(0, 10), 0), b);
        }
        Due.due("one more", x.bridge(10, Due.bits(0, 10), 0), FULL);
    }

    private static void whatItIs_anObjectMadeAnewHasIts512CallsAgain() {
        for (int made = 0; made < 20; made++) {
            RollingLoads x = Made.full();
            Due.due("full", x.count(3), 30);
            Due.due("one more", x.train(1), FULL);
        }
    }

    /** The dearest calls, on full tables: what they make is far below what one run may make. */
    private static void whatItIs_512CallsMakeLittle() {
        longRun();
        com.sun.management.ThreadMXBean threads =
                (com.sun.management.ThreadMXBean) ManagementFactory.getThreadMXBean();
        long before = threads.getCurrentThreadAllocatedBytes();
        long sum = longRun();
        long bytes = threads.getCurrentThreadAllocatedBytes() - before;
        Due.holds("it answers: " + sum, sum != 0);
        Due.holds("fewer than 2 million bytes: " + bytes, bytes < 2000000);
    }

    private static long longRun() {
        RollingLoads x = Made.full();
        long sum = 0;
        for (int call = 134; call < MAX_CALLS; call++) {
            int b = call % 6;
            int t = call % 8;
            switch (call % 7) {
                case 0: sum += x.posted(b, t); break;
                case 1: sum += x.spread(b, t, 0); break;
                case 2: sum += x.why(t, 0, 0, 9); break;
                case 3: sum += x.worn(b, 1, 9); break;
                case 4: sum += x.bridge(60, Due.bits(0, 15, 30, 45, 60), Due.bits(14, 29, 46)); break;
                case 5: sum += x.worst(b, 1, 9, t, 0, 0); break;
                default: sum += x.route(t, 0, 0, 9, 0); break;
            }
        }
        return sum;
    }

    // ---- terms 0: numbers, fractions, refusals

    private static void terms0_theConstants() {
        Due.due("NONE", RollingLoads.NONE, -1);
        Due.due("UNKNOWN", RollingLoads.UNKNOWN, -1001);
        Due.due("OUTSIDE", RollingLoads.OUTSIDE, -1002);
        Due.due("NOT", RollingLoads.NOT, -1003);
        Due.due("FULL", RollingLoads.FULL, -1004);
    }

    private static long common(long x, long y) {
        return y == 0 ? Math.abs(x) : common(y, x % y);
    }

    private static void leastTerms(String name, long upper, long lower) {
        Due.holds(name + ": " + lower + " is above 0", lower > 0);
        Due.due(name + ": what both have in common", common(upper, lower), 1);
    }

    private static void terms0_fractionsAreInLeastTermsTheLowerAbove0() {
        long[][] bridges = {{24, Due.bits(1, 5, 12, 20), Due.bits(7, 11)},
            {24, Due.bits(0, 6, 18, 24), Due.bits(8, 16)}, {24, Due.bits(4, 20), 0},
            {24, Due.bits(0, 3, 9, 15, 21), Due.bits(6, 12, 18)}};
        for (long[] one : bridges) {
            RollingLoads x = new RollingLoads();
            Due.due("bridge", x.bridge((int) one[0], one[1], one[2]), 0);
            Made.train(x, 6, 4, 10);
            x.check(0, 0, 0, 1, 0);
            for (int a = 0; a <= 24; a++) {
                leastTerms("influence", x.influence(0, 0, 1, a, 0), x.influence(0, 0, 1, a, 1));
                leastTerms("moment", x.influence(0, 1, 10, a, 0), x.influence(0, 1, 10, a, 1));
                leastTerms("effect", x.effect(0, 1, a, 0, 1, 13, 0), x.effect(0, 1, a, 0, 1, 13, 1));
            }
            for (int end = 0; end < 2; end++) {
                leastTerms("worst", x.worst(0, 1, 14, 0, end, 0), x.worst(0, 1, 14, 0, end, 1));
                leastTerms("total", x.total(0, 0, 0, 0, end, 0), x.total(0, 0, 0, 0, end, 1));
            }
        }
    }

    private static void terms0_noughtIs0Over1() {
        RollingLoads x = Made.twoTrains();
        x.check(0, 0, 0, 1, 0);
        Due.fraction("influence", x.influence(0, 0, 0, 12, 0), x.influence(0, 0, 0, 12, 1), 0, 1);
        Due.fraction("effect", x.effect(0, 0, 1, 0, 0, 0, 0), x.effect(0, 0, 1, 0, 0, 0, 1), 0, 1);
        Due.fraction("worst", x.worst(0, 0, 0, 0, 1, 0), x.worst(0, 0, 0, 0, 1, 1), 0, 1);
        Due.fraction("total", x.total(0, 0, 0, 0, 1, 0), x.total(0, 0, 0, 0, 1, 1), 0, 1);
    }

    private static void terms0_belowNoughtTheUpperNumberIs() {
        RollingLoads x = new RollingLoads();
        x.bridge(10, Due.bits(2, 8), 0);
        x.train(2);
        x.check(0, 0, 1, 1, 0);
        x.rule(0, 0, 0);
        Due.fraction("influence", x.influence(0, 0, 1, 0, 0), x.influence(0, 0, 1, 0, 1), -1, 3);
        Due.fraction("effect", x.effect(0, 0, 1, 0, 0, 0, 0), x.effect(0, 0, 1, 0, 0, 0, 1), -2, 3);
        Due.fraction("worst", x.worst(0, 0, 1, 0, 1, 0), x.worst(0, 0, 1, 0, 1, 1), -2, 3);
        Due.fraction("total", x.total(0, 0, 0, 0, 1, 0), x.total(0, 0, 0, 0, 1, 1), -2, 3);
    }

    private static void terms0_numbersFrom0AsTheyCome() {
        RollingLoads x = new RollingLoads();
        for (int i = 0; i < 5; i++) {
            Due.due("refused", x.bridge(1, 3, 0), OUTSIDE);
            Due.due("bridge", x.bridge(10 + i, Due.bits(0, 10 + i), 0), i);
            Due.due("refused", x.train(0), OUTSIDE);
            Due.due("train", x.train(5 + i), i);
            Due.due("refused", x.check(0, 1, 5, -1, 0), OUTSIDE);
            Due.due("check", x.check(0, 1, 5, i, 0), i);
            Due.due("refused", x.road(i, i, 1, NONE), OUTSIDE);
            Due.due("road", x.road(i, i + 1, 1, NONE), i);
        }
        for (int i = 0; i < 5; i++) {
            Due.due("bridge " + i, x.told(i, 0), 10 + i);
            Due.due("train " + i, x.axles(i, 0, 0), 5 + i);
            Due.due("road " + i, x.route(0, 2, i, i + 1, 2), i);
        }
        Due.due("checks of another bridge begin at 0", x.check(4, 1, 5, 1, 0), 0);
    }

    private static void terms0_unknownIsAheadOfOutside() {
        RollingLoads x = Made.some();
        Due.due("told", x.told(3, 7), UNKNOWN);
        Due.due("influence", x.influence(0, 0, 2, -1, 2), UNKNOWN);
        Due.due("rule", x.rule(3, 3, 1000), UNKNOWN);
        Due.due("axle", x.axle(2, 0, 0), UNKNOWN);
        Due.due("axles", x.axles(2, 0, 2), UNKNOWN);
        Due.due("effect", x.effect(0, 2, 0, 2, 2, -1, 2), UNKNOWN);
        Due.due("worst", x.worst(0, 2, 0, 2, 2, 4), UNKNOWN);
        Due.due("check", x.check(3, 2, 0, -1, 1), UNKNOWN);
        Due.due("limit", x.limit(0, 1, -1, 1), UNKNOWN);
        Due.due("total", x.total(0, 0, 2, 3, 2, 2), UNKNOWN);
        Due.due("fails", x.fails(0, 2, 3), UNKNOWN);
        Due.due("spread", x.spread(0, 2, 3), UNKNOWN);
        Due.due("road", x.road(0, 0, 0, 3), UNKNOWN);
        Due.due("route", x.route(2, 3, 0, 0, 12), UNKNOWN);
        Due.due("why", x.why(2, 3, 0, 0), UNKNOWN);
        Due.due("wear", x.wear(0, 2, 0, 2, 3), UNKNOWN);
        Due.due("traffic", x.traffic(2, 1001), UNKNOWN);
        Due.due("worn", x.worn(3, 2, 0), UNKNOWN);
    }

    private static void terms0_unknownIsAheadOfFull() {
        RollingLoads x = Made.full();
        Due.due("axle", x.axle(8, 1, 1), UNKNOWN);
        Due.due("check", x.check(0, 0, 3, 1, 0), UNKNOWN);
        Due.due("road", x.road(0, 1, 1, 6), UNKNOWN);
    }

    private static void terms0_outsideIsAheadOfFull() {
        RollingLoads x = Made.full();
        Due.due("bridge", x.bridge(61, Due.bits(0, 10), 0), OUTSIDE);
        Due.due("train", x.train(0), OUTSIDE);
        Due.due("axle", x.axle(0, 21, 1), OUTSIDE);
        Due.due("check", x.check(0, 1, 0, 1, 1), OUTSIDE);
        Due.due("road", x.road(0, 1, 501, 0), OUTSIDE);
    }

    private static void terms0_fullComesLast() {
        RollingLoads x = Made.full();
        Due.due("bridge", x.bridge(10, Due.bits(0, 10), 0), FULL);
        Due.due("train", x.train(1), FULL);
        Due.due("axle", x.axle(0, 1, 1), FULL);
        Due.due("check", x.check(0, 1, 0, 1, 0), FULL);
        Due.due("road", x.road(0, 1, 1, 0), FULL);
    }

    private static void terms0_theLastOfEachFullTableAnswers() {
        RollingLoads x = Made.full();
        Due.due("bridge 5", x.told(5, 0), 60);
        Due.due("its last support", x.influence(5, 0, 2, 60, 0), 1);
        Due.due("its place 60", x.influence(5, 1, 60, 60, 0), 0);
        Due.due("train 7", x.axles(7, 0, 0), 145);
        Due.due("its last axle", x.axles(7, 7, 0), 1 + (90 * 7 + 31 * 7) % 120);
        Due.due("its last axle stands at the end of bridge 5 last",
                x.effect(5, 0, 2, 7, 0, 60 + x.axles(7, NONE, 1), 0), 1 + (90 * 7 + 31 * 7) % 120);
        Due.due("check 4 of bridge 5", x.limit(5, 4, 0, 0), 1);
        for (int c = 0; c < 4; c++) {
            x.limit(5, c, 100000, -100000);
        }
        Due.due("it alone is not met", x.fails(5, 7, 2), 4);
        Due.due("traffic of train 7", x.traffic(7, 0), 701);
        Due.due("usual", x.usual(7), 7);
    }

    private static void terms0_bothQuotientsAreCut() {
        RollingLoads x = Made.beam(10);
        x.train(7);
        x.check(0, 1, 5, 2, -2);
        x.rule(0, 0, 0);
        // 7 times 14 hundredths is less than 1, times 28 less than 2; 2 1/2 is more than HIGH.
        Due.due("weights of POSTED", x.posted(0, 0), 14);
        // 35 / 2 up and down.
        Due.due("sizes of WEAR", x.wear(0, 1, 5, 0, 0), 2 * 17 * 17 * 17);
    }

    // ---- terms 1: bridges

    /** The document's conditions, on every RESPONSE of some bridges. */
    private static void terms1_reactionsHoldToTheConditions() {
        long[][] bridges = {{20, Due.bits(0, 20), 0}, {20, Due.bits(7, 8), 0}, {20, Due.bits(0, 9, 20), Due.bits(19)},
            {20, Due.bits(0, 9, 20), Due.bits(1)}, {20, Due.bits(3, 4, 16, 17), Due.bits(5, 15)},
            {20, Due.bits(0, 5, 10, 15, 20), Due.bits(7, 12, 17)}};
        for (long[] one : bridges) {
            RollingLoads x = new RollingLoads();
            Due.due("bridge", x.bridge((int) one[0], one[1], one[2]), 0);
            for (int a = 0; a <= 20; a += 4) {
                conditions(x, one[1], one[2] | Due.bits(20), a);
            }
        }
    }

    private static void conditions(RollingLoads x, long supports, long hinges, int a) {
        Ratio all = Ratio.ZERO;
        Ratio[] moments = new Ratio[21];
        Arrays.fill(moments, Ratio.ZERO);
        int i = 0;
        for (int p = 0; p <= 20; p++) {
            if ((supports >>> p & 1) == 0) {
                continue;
            }
            Ratio r = Ratio.of(x.influence(0, 0, i, a, 0), x.influence(0, 0, i, a, 1));
            all = all.plus(r);
            for (int h = p + 1; h <= 20; h++) {
                moments[h] = moments[h].plus(r.times(Ratio.of(h - p, 1)));
            }
            i++;
        }
        Due.due("all come to 1", all.compareTo(Ratio.ONE), 0);
        for (int h = 1; h <= 20; h++) {
            if ((hinges >>> h & 1) != 0) {
                Due.due("hinge " + h, moments[h].compareTo(Ratio.of(Math.max(0, h - a), 1)), 0);
            }
        }
    }

    private static void terms1_supportsAreNumberedByPlaces() {
        RollingLoads x = new RollingLoads();
        x.bridge(20, Due.bits(0, 5, 10, 15, 20), Due.bits(7, 12, 17));
        for (int i = 0; i < 5; i++) {
            for (int at = 0; at < 5; at++) {
                Due.due("load on support " + i + ", reaction of " + at, x.influence(0, 0, at, 5 * i, 0), i == at ? 1 : 0);
            }
        }
    }

    /** A support or a load at x itself adds nothing to the MOMENT at x. */
    private static void terms1_onlyWhatIsBelowTheSectionCounts() {
        RollingLoads x = new RollingLoads();
        x.bridge(10, Due.bits(2, 8), 0);
        Due.due("at the first support, load behind", x.influence(0, 1, 2, 5, 0), 0);
        Due.due("at the first support, load on it", x.influence(0, 1, 2, 2, 0), 0);
        Due.due("at the first support, load 1 ahead", x.influence(0, 1, 2, 1, 0), -1);
        Due.due("1 ahead of the support, load there", x.influence(0, 1, 1, 1, 0), 0);
        Due.due("at the last support, load 1 behind", x.influence(0, 1, 8, 9, 0), -1);
        Due.due("at place 0", x.influence(0, 1, 0, 0, 0), 0);
    }

    // ---- terms 2: trains

    private static void terms2_anAxleAt0AndAtLengthIsOn() {
        RollingLoads x = Made.beam(10);
        x.train(7);
        Due.due("at 0", x.effect(0, 0, 0, 0, 0, 0, 0), 7);
        Due.due("at LENGTH", x.effect(0, 0, 1, 0, 0, 10, 0), 7);
    }

    private static void terms2_anAxleOneOffIsNotOn() {
        RollingLoads x = new RollingLoads();
        // Support 0 bears (5 - a) / 5, which would not be 0 beside the ends.
        x.bridge(10, Due.bits(0, 5), 0);
        Made.train(x, 10, 3, 1);
        Due.due("the second at -1", x.effect(0, 0, 0, 0, 0, 2, 0), 6);
        Due.due("the second at 0", x.effect(0, 0, 0, 0, 0, 3, 0), 5);
        Due.fraction("the first at LENGTH", x.effect(0, 0, 0, 0, 0, 10, 0), x.effect(0, 0, 0, 0, 0, 10, 1), -52, 5);
        Due.fraction("the first 1 beyond", x.effect(0, 0, 0, 0, 0, 11, 0), x.effect(0, 0, 0, 0, 0, 11, 1), -3, 5);
    }

    private static void terms2_theGapOfTheFirstAxleIsNotLookedAt() {
        RollingLoads x = Made.beam(10);
        Made.train(x, 10, 3, 1);
        Due.due("0", x.axles(0, 0, 1), 0);
        Due.due("all", x.axles(0, NONE, 1), 3);
        x.check(0, 0, 0, 12, 0);
        Due.due("spread", x.spread(0, 0, 2), 0);
    }

    private static void terms2_way1HasTheLastAxleAheadAndTheSameGaps() {
        RollingLoads x = Made.beam(30);
        Made.train(x, 1, 2, 10, 5, 100);
        // At TIME 30 the ahead one stands at LENGTH: 30, 28, 23 thirtieths or 30, 25, 23.
        Due.due("way 0", x.effect(0, 0, 1, 0, 0, 30, 0), (30 + 280 + 2300) / 30);
        Due.fraction("way 1", x.effect(0, 0, 1, 0, 1, 30, 0), x.effect(0, 0, 1, 0, 1, 30, 1), 3273 / 3, 30 / 3);
    }

    // ---- terms 3: checks

    private static void terms3_totalAtMostHighToTheFraction() {
        RollingLoads x = Made.beam(60);
        Made.train(x, 100, 20, 100);
        x.check(0, 0, 0, 167, 0);
        Due.fraction("total", x.total(0, 0, 0, 2, 0, 0), x.total(0, 0, 0, 2, 0, 1), 500, 3);
        Due.due("166 and two thirds is below 167", x.fails(0, 0, 2), NONE);
        x.limit(0, 0, 166, 0);
        Due.due("and above 166", x.fails(0, 0, 2), 0);
    }

    private static void terms3_totalAtLeastLowToTheFraction() {
        RollingLoads x = new RollingLoads();
        x.bridge(10, Due.bits(2, 5), 0);
        x.train(100);
        x.check(0, 0, 0, 100000, -167);
        Due.fraction("total", x.total(0, 0, 0, 2, 1, 0), x.total(0, 0, 0, 2, 1, 1), -500, 3);
        Due.due("-166 and two thirds is above -167", x.fails(0, 0, 2), NONE);
        x.limit(0, 0, 100000, -166);
        Due.due("and below -166", x.fails(0, 0, 2), 0);
    }

    /** Supports at 0 and 1 of 60: the one at 1 bears a, the one at 0 bears 1 - a. */
    private static RollingLoads longArm() {
        RollingLoads x = new RollingLoads();
        x.bridge(60, Due.bits(0, 1), 0);
        x.rule(0, 1, 4);
        x.rule(0, 2, 100);
        return x;
    }

    private static void terms3_totalOf100000MeetsTheWidestHigh() {
        RollingLoads x = longArm();
        Made.train(x, 200, 20, 200);
        x.usual(0);
        x.rule(0, 0, 25);
        x.check(0, 0, 1, 100000, -100000);
        Due.due("(60 and 40) times 200, four lanes, 125 hundredths", x.total(0, 0, 0, 0, 0, 0), 100000);
        Due.due("met", x.fails(0, 0, 0), NONE);
        x.limit(0, 0, 99999, -100000);
        Due.due("not by 99999", x.fails(0, 0, 0), 0);
        x.limit(0, 0, 100000, -100000);
        x.rule(0, 0, 26);
        Due.due("not with a hundredth more", x.fails(0, 0, 0), 0);
    }

    private static void terms3_totalOfMinus100000MeetsTheWidestLow() {
        RollingLoads x = longArm();
        Made.train(x, 139, 1, 128);
        x.usual(0);
        x.rule(0, 0, 60);
        x.check(0, 0, 0, 100000, -100000);
        Due.due("59 times 139 and 58 times 128, four lanes, 160 hundredths", x.total(0, 0, 0, 0, 1, 0), -100000);
        Due.due("met", x.fails(0, 0, 0), NONE);
        x.limit(0, 0, 100000, -99999);
        Due.due("not by -99999", x.fails(0, 0, 0), 0);
    }

    /** Arms of 14, one behind the other: at the end a load bears 38416 times on support 0. */
    private static void terms3_totalsFarAboveTheWidestLimits() {
        RollingLoads x = new RollingLoads();
        x.bridge(60, Due.bits(0, 1, 16, 31, 46), Due.bits(15, 30, 45));
        x.train(200);
        x.train(100);
        x.check(0, 0, 0, 100000, -100000);
        x.rule(0, 0, 60);
        x.rule(0, 1, 4);
        x.rule(0, 2, 100);
        Due.due("posted, of 200", x.posted(0, 0), 0);
        Due.due("posted, of 100", x.posted(0, 1), 1);
        x.usual(0);
        Due.due("total", x.total(0, 0, 0, 0, 0, 0), 200L * 38416 * 4 * 16 / 10);
        Due.due("least", x.total(0, 0, 0, 0, 1, 0), -200L * 2744 * 4 * 16 / 10);
        Due.due("not met", x.fails(0, 0, 0), 0);
        Due.due("not even crawling", x.fails(0, 0, 2), 0);
        Due.due("not even with 0", x.posted(0, 0), NONE);
    }

    private static void terms3_noughtMeetsLimitsOf0() {
        RollingLoads x = Made.beam(10);
        x.train(200);
        x.check(0, 1, 0, 0, 0);
        x.check(0, 1, 10, 0, 0);
        Due.due("met", x.fails(0, 0, 0), NONE);
        x.check(0, 1, 1, 0, 0);
        Due.due("anything at all does not", x.fails(0, 0, 0), 2);
    }

    private static void terms3_theUsualTrainMayBeTheTrainItself() {
        RollingLoads x = Made.twoTrains();
        x.check(0, 1, 6, 100000, 0);
        x.usual(0);
        x.rule(0, 0, 0);
        x.rule(0, 1, 4);
        x.rule(0, 2, 100);
        Due.due("four times 180", x.total(0, 0, 0, 0, 0, 0), 720);
        Due.due("once", x.total(0, 0, 0, 1, 0, 0), 180);
    }

    /** The rules are a bridge's own, THE USUAL TRAIN is one for all. */
    private static void terms3_theUsualTrainIsOneForAllBridges() {
        RollingLoads x = Made.twoTrains();
        x.bridge(12, Due.bits(0, 12), 0);
        x.usual(1);
        for (int b = 0; b < 2; b++) {
            x.check(b, 1, 6, 100000, 0);
            x.rule(b, 0, 0);
            x.rule(b, 1, 2 + b);
            Due.due("bridge " + b, x.total(b, 0, 0, 0, 0, 0), 180 + 50 * (1 + b));
        }
    }

    /** Where all of the usual train is on one side of 0, the other end of it is 0, not less. */
    private static void terms3_othersCountFrom0On() {
        RollingLoads x = new RollingLoads();
        x.bridge(12, Due.bits(5, 7), 0);
        x.train(8);
        Made.train(x, 8, 3, 8);
        x.check(0, 1, 6, 100000, -100000);
        x.rule(0, 0, 0);
        x.rule(0, 1, 2);
        x.rule(0, 2, 100);
        x.usual(1);
        Due.due("greatest, 4 and 0", x.total(0, 0, 0, 0, 0, 0), 4);
        Due.due("least, 20 and 28", x.total(0, 0, 0, 0, 1, 0), -48);
        Due.due("greatest of the train itself", x.total(0, 0, 1, 0, 0, 0), 0);
    }

    // ---- terms 4: towns and roads

    private static void terms4_roadsAreGoneEitherWay() {
        RollingLoads x = new RollingLoads();
        x.train(1);
        x.road(9, 0, 500, NONE);
        Due.due("as told", x.route(0, 0, 9, 0, 0), 500);
        Due.due("the other way", x.route(0, 0, 0, 9, 0), 500);
    }

    private static void terms4_aBridgeMayBeOfSeveralRoads() {
        RollingLoads x = Made.beam(10);
        x.train(10);
        x.check(0, 0, 0, 9, 0);
        x.road(0, 1, 1, 0);
        x.road(2, 3, 1, 0);
        x.road(0, 1, 2, NONE);
        Due.due("not by the one", x.route(0, 2, 0, 1, 2), 2);
        Due.due("nor by the other", x.route(0, 2, 2, 3, 2), NONE);
        x.limit(0, 0, 10, 0);
        Due.due("both", x.route(0, 2, 0, 1, 2), 0);
        Due.due("both", x.route(0, 2, 2, 3, 2), 1);
    }

    private static void terms4_whatIsClosedForOneTrainIsOpenForAnother() {
        RollingLoads x = Made.beam(10);
        x.train(10);
        x.train(9);
        x.check(0, 0, 0, 9, 0);
        x.road(0, 1, 1, 0);
        Due.due("10", x.route(0, 2, 0, 1, 0), NONE);
        Due.due("9", x.route(1, 2, 0, 1, 0), 1);
        Due.due("10 again", x.why(0, 2, 0, 1), 0);
        Due.due("9 again", x.why(1, 2, 0, 1), NONE);
    }

    // ---- terms 5: turns

    /** The row begins and ends with 0, though the first and the last EFFECT are not 0. */
    private static void terms5_fromNoughtToNought() {
        RollingLoads x = new RollingLoads();
        x.bridge(4, Due.bits(1, 3), 0);
        x.train(2);
        // 0, then 3, 2, 1, 0, -1, then 0.
        Due.due("wear", x.wear(0, 0, 0, 0, 0), 27 + 64 + 1);
        Due.due("whole", x.wear(0, 0, 0, 0, 1), 0);
        Due.due("half", x.wear(0, 0, 0, 0, 2), 3);
    }

    /** Likes beside each other, up, at the top and below, are one. */
    private static void terms5_likesGoOut() {
        RollingLoads x = Made.beam(2);
        Made.train(x, 10, 1, 10);
        // 0, 10, 15, 5, 0: then 0. The other support: 0, 5, 15, 10, 0.
        Due.due("one rise, one fall", x.wear(0, 0, 0, 0, 2), 2);
        Due.due("of 15", x.wear(0, 0, 0, 0, 0), 2 * 15 * 15 * 15);
        x.bridge(12, Due.bits(0, 12), 0);
        Made.train(x, 10, 4, 10);
        // Both on opposite sides of 6 keep 40 from TIME 6 to 10.
        Due.due("at 6", x.effect(1, 1, 6, 1, 0, 6, 0), 40);
        Due.due("at 10", x.effect(1, 1, 6, 1, 0, 10, 0), 40);
        Due.due("half turns", x.wear(1, 1, 6, 1, 2), 2);
        Due.due("of 40", x.wear(1, 1, 6, 1, 0), 2 * 40 * 40 * 40);
    }

    public static void main(String[] args) {
        Cases.run(TermsTest.class, "whatItIs", "terms0", "terms1", "terms2", "terms3", "terms4", "terms5");
    }
}
