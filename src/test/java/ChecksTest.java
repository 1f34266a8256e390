/** Promises 11 to 17: check, limit, usual, total, fails, posted, spread. */
public final class ChecksTest {
    private static final int NONE = RollingLoads.NONE;
    private static final int UNKNOWN = RollingLoads.UNKNOWN;
    private static final int OUTSIDE = RollingLoads.OUTSIDE;
    private static final int FULL = RollingLoads.FULL;
    private static final int MIN = Integer.MIN_VALUE;
    private static final int MAX = Integer.MAX_VALUE;

    // ---- promise 11: check

    private static void promise11_highFrom0To100000() {
        RollingLoads x = Made.twoTrains();
        Due.due("high 0", x.check(0, 1, 6, 0, 0), 0);
        Due.due("high 100000", x.check(0, 1, 6, 100000, 0), 1);
        Due.each("high", high -> x.check(0, 1, 6, high, 0), OUTSIDE, -1, 100001, MIN, MAX);
        Due.due("two", x.told(0, 3), 2);
    }

    private static void promise11_lowFromMinus100000To0() {
        RollingLoads x = Made.twoTrains();
        Due.due("low 0", x.check(0, 1, 6, 0, 0), 0);
        Due.due("low -100000", x.check(0, 1, 6, 0, -100000), 1);
        Due.each("low", low -> x.check(0, 1, 6, 0, low), OUTSIDE, 1, -100001, MIN, MAX);
        Due.due("two", x.told(0, 3), 2);
    }

    private static void promise11_placeFrom0ToLength() {
        RollingLoads x = Made.twoTrains();
        Due.due("place 0", x.check(0, 1, 0, 1, 0), 0);
        Due.due("place LENGTH", x.check(0, 1, 12, 1, 0), 1);
        Due.each("place", at -> x.check(0, 1, at, 1, 0), OUTSIDE, -1, 13, MIN, MAX);
    }

    private static void promise11_kindBelow0OrAbove1IsOutside() {
        RollingLoads x = Made.twoTrains();
        Due.each("kind", kind -> x.check(0, kind, 0, 1, 0), OUTSIDE, -1, 2, MIN, MAX);
    }

    private static void promise11_aBridgeOrSupportThatThereIsNotIsUnknown() {
        RollingLoads x = Made.twoTrains();
        Due.each("bridge", b -> x.check(b, 1, 0, 1, 0), UNKNOWN, -1, 1, 6, MIN, MAX);
        Due.each("support", at -> x.check(0, 0, at, 1, 0), UNKNOWN, -1, 2, MIN, MAX);
        Due.due("support 0", x.check(0, 0, 0, 1, 0), 0);
        Due.due("support 1", x.check(0, 0, 1, 1, 0), 1);
    }

    private static void promise11_theSixthIsFull() {
        RollingLoads x = Made.twoTrains();
        x.bridge(10, Due.bits(0, 10), 0);
        for (int c = 0; c < 5; c++) {
            Due.due("check " + c, x.check(0, 1, 6, 200 + c, 0), c);
        }
        Due.due("the sixth", x.check(0, 1, 6, 1, 0), FULL);
        Due.due("the sixth again", x.check(0, 0, 0, 1, 0), FULL);
        Due.due("five", x.told(0, 3), 5);
        Due.due("five of all", x.count(3), 5);
        Due.due("the last is as it was", x.fails(0, 0, 2), NONE);
        Due.due("there is no sixth", x.limit(0, 5, 2, 0), UNKNOWN);
        Due.due("the other bridge has room", x.check(1, 1, 5, 1, 0), 0);
        Due.due("six of all", x.count(3), 6);
    }

    private static void promise11_refusalsInTheirOrder() {
        RollingLoads x = Made.full();
        Due.due("bridge ahead of high", x.check(6, 1, 0, -1, 0), UNKNOWN);
        Due.due("bridge ahead of kind", x.check(6, 2, 0, 1, 0), UNKNOWN);
        Due.due("support ahead of low", x.check(0, 0, 3, 1, 1), UNKNOWN);
        Due.due("support ahead of FULL", x.check(0, 0, 3, 1, 0), UNKNOWN);
        Due.due("kind ahead of FULL", x.check(0, 2, 0, 1, 0), OUTSIDE);
        Due.due("place ahead of FULL", x.check(0, 1, 21, 1, 0), OUTSIDE);
        Due.due("high ahead of FULL", x.check(0, 1, 0, 100001, 0), OUTSIDE);
        Due.due("low ahead of FULL", x.check(0, 1, 0, 1, 1), OUTSIDE);
        Due.due("FULL comes last", x.check(0, 1, 0, 1, 0), FULL);
    }

    // ---- promise 12: limit

    private static void promise12_highAndLowAreSetAnew() {
        RollingLoads x = Made.twoTrains();
        x.check(0, 1, 6, 180, 0);
        Due.due("180 is enough for a crawl", x.fails(0, 0, 2), NONE);
        Due.due("limit", x.limit(0, 0, 179, 0), 1);
        Due.due("179 is not", x.fails(0, 0, 2), 0);
        Due.due("limit back", x.limit(0, 0, 180, 0), 1);
        Due.due("180 is again", x.fails(0, 0, 2), NONE);
        // The support at 2 of two, at 2 and 6, is lifted: by 40 and a quarter of 40 at the worst.
        x.bridge(10, Due.bits(2, 6), 0);
        x.check(1, 0, 0, 100000, -50);
        Due.due("down to -50", x.fails(1, 0, 2), NONE);
        Due.due("limit of low", x.limit(1, 0, 100000, -49), 1);
        Due.due("not down to -49 alone", x.fails(1, 0, 2), 0);
        Due.due("the other bridge keeps its own", x.fails(0, 0, 2), NONE);
    }

    private static void promise12_highFrom0To100000() {
        RollingLoads x = Made.twoTrains();
        x.check(0, 1, 6, 200, 0);
        Due.each("high", high -> x.limit(0, 0, high, 0), OUTSIDE, -1, 100001, MIN, MAX);
        Due.each("high", high -> x.limit(0, 0, high, 0), 1, 0, 100000);
    }

    private static void promise12_lowFromMinus100000To0() {
        RollingLoads x = Made.twoTrains();
        x.check(0, 1, 6, 200, 0);
        Due.each("low", low -> x.limit(0, 0, 200, low), OUTSIDE, 1, -100001, MIN, MAX);
        Due.each("low", low -> x.limit(0, 0, 200, low), 1, 0, -100000);
    }

    private static void promise12_aBridgeOrCheckThatThereIsNotIsUnknown() {
        RollingLoads x = Made.twoTrains();
        Due.each("no check yet", c -> x.limit(0, c, 1, 0), UNKNOWN, -1, 0, 1);
        x.check(0, 1, 6, 200, 0);
        Due.each("bridge", b -> x.limit(b, 0, 1, 0), UNKNOWN, -1, 1, 6, MIN, MAX);
        Due.each("check", c -> x.limit(0, c, 1, 0), UNKNOWN, -1, 1, 4, 5, MIN, MAX);
        Due.due("ahead of high", x.limit(0, 1, -1, 0), UNKNOWN);
        Due.due("ahead of low", x.limit(1, 0, 1, 1), UNKNOWN);
    }

    private static void promise12_refusedChangesNeitherHighNorLow() {
        RollingLoads x = new RollingLoads();
        x.bridge(10, Due.bits(2, 6), 0);
        x.train(40);
        // From 60, at 0, to -40, at 10.
        x.check(0, 0, 0, 60, -40);
        Due.due("met as it is", x.fails(0, 0, 2), NONE);
        Due.due("low is bad, high is not set", x.limit(0, 0, 59, 1), OUTSIDE);
        Due.due("high is bad, low is not set", x.limit(0, 0, -1, -39), OUTSIDE);
        Due.due("still met", x.fails(0, 0, 2), NONE);
        x.limit(0, 0, 59, -39);
        Due.due("low is bad, high is not set wider", x.limit(0, 0, 100000, -100001), OUTSIDE);
        Due.due("high is bad, low is not set wider", x.limit(0, 0, 100001, -100000), OUTSIDE);
        Due.due("still not met", x.fails(0, 0, 2), 0);
        x.limit(0, 0, 60, -39);
        Due.due("not for low alone", x.fails(0, 0, 2), 0);
        x.limit(0, 0, 59, -40);
        Due.due("not for high alone", x.fails(0, 0, 2), 0);
    }

    // ---- promise 13: usual

    private static void promise13_whatItWas() {
        RollingLoads x = Made.twoTrains();
        Due.due("none before", x.usual(1), NONE);
        Due.due("told", x.count(4), 1);
        Due.due("1 before", x.usual(0), 1);
        Due.due("0 before", x.usual(0), 0);
        Due.due("0 before none", x.usual(NONE), 0);
        Due.due("none", x.count(4), NONE);
        Due.due("none before none", x.usual(NONE), NONE);
    }

    private static void promise13_aTrainThatThereIsNotIsUnknown() {
        RollingLoads x = Made.twoTrains();
        x.usual(1);
        Due.each("train", x::usual, UNKNOWN, -2, 2, 7, 8, -1001, MIN, MAX);
        Due.due("refused changes nothing", x.count(4), 1);
    }

    private static void promise13_theLastOfEight() {
        RollingLoads x = Made.full();
        Due.due("train 8", x.usual(8), UNKNOWN);
        Due.due("train 7 is told", x.count(4), 7);
        Due.due("train 7 before", x.usual(NONE), 7);
        Due.due("train 7", x.usual(7), NONE);
    }

    private static void promise13_anAxleMoreCountsAtOnce() {
        RollingLoads x = Made.twoTrains();
        x.check(0, 1, 6, 100000, 0);
        x.train(10);
        x.usual(2);
        x.rule(0, 1, 2);
        x.rule(0, 0, 0);
        Due.due("180 and half of 30", x.total(0, 0, 0, 0, 0, 0), 195);
        x.axle(2, 2, 10);
        Due.due("180 and half of 50", x.total(0, 0, 0, 0, 0, 0), 205);
    }

    // ---- promise 14: total

    private static void total(RollingLoads x, int b, int mode, int end, long upper, long lower) {
        Ratio want = Ratio.of(upper, lower);
        Due.fraction("total of bridge " + b + " mode " + mode + " end " + end,
                x.total(b, 0, 0, mode, end, 0), x.total(b, 0, 0, mode, end, 1), want.part(0), want.part(1));
    }

    private static void promise14_withoutOthersInEachMode() {
        RollingLoads x = Made.twoTrains();
        x.check(0, 1, 6, 200, 0);
        total(x, 0, 0, 0, 234, 1);
        total(x, 0, 1, 0, 234, 1);
        total(x, 0, 2, 0, 180, 1);
        total(x, 0, 0, 1, 0, 1);
    }

    /** Train 1 has 100: two other lanes of 33 hundredths are 66 more, three of them 99. */
    private static void promise14_othersCountInMode0Alone() {
        RollingLoads x = Made.twoTrains();
        x.check(0, 1, 6, 200, 0);
        x.usual(1);
        x.rule(0, 1, 3);
        x.rule(0, 2, 33);
        total(x, 0, 0, 0, (180 + 66) * 13, 10);
        total(x, 0, 1, 0, 234, 1);
        total(x, 0, 2, 0, 180, 1);
        x.rule(0, 0, 7);
        total(x, 0, 0, 0, 246 * 107, 100);
        total(x, 0, 1, 0, 180 * 107, 100);
        x.rule(0, 1, 4);
        total(x, 0, 0, 0, 279 * 107, 100);
    }

    private static void promise14_noOthersCount() {
        RollingLoads x = Made.twoTrains();
        x.check(0, 1, 6, 200, 0);
        x.usual(1);
        total(x, 0, 0, 0, 234, 1);
        x.rule(0, 2, 100);
        total(x, 0, 0, 0, 234, 1);
        x.rule(0, 1, 4);
        x.rule(0, 2, 0);
        total(x, 0, 0, 0, 234, 1);
        x.rule(0, 2, 100);
        x.usual(NONE);
        total(x, 0, 0, 0, 234, 1);
    }

    private static void promise14_shakeFrom0To60() {
        RollingLoads x = Made.twoTrains();
        x.check(0, 1, 6, 200, 0);
        x.rule(0, 0, 0);
        total(x, 0, 0, 0, 180, 1);
        x.rule(0, 0, 60);
        total(x, 0, 0, 0, 288, 1);
        x.rule(0, 0, 1);
        total(x, 0, 0, 0, 909, 5);
    }

    private static void promise14_oneHundredthOfOneLane() {
        RollingLoads x = Made.twoTrains();
        x.check(0, 1, 6, 200, 0);
        x.usual(1);
        x.rule(0, 0, 0);
        x.rule(0, 1, 2);
        x.rule(0, 2, 1);
        total(x, 0, 0, 0, 181, 1);
        x.rule(0, 0, 1);
        total(x, 0, 0, 0, 18281, 100);
    }

    /** Supports at 2 and 5 of 10: that at 2 is lifted by (5 - a) / 3. */
    private static void promise14_theLeastIsLessWithOthers() {
        RollingLoads x = new RollingLoads();
        x.bridge(12, Due.bits(0, 12), 0);
        x.bridge(10, Due.bits(2, 5), 0);
        Made.train(x, 40, 3, 40);
        Made.train(x, 25, 5, 25, 5, 25);
        x.check(1, 0, 0, 1, 0);
        x.usual(1);
        x.rule(1, 1, 2);
        x.rule(1, 0, 10);
        total(x, 1, 2, 1, -280, 3);
        total(x, 1, 1, 1, -308, 3);
        // Of train 1, 125 / 3, half counts.
        total(x, 1, 0, 1, -(2 * 280 + 125) * 11, 60);
        x.usual(NONE);
        total(x, 1, 0, 1, -308, 3);
    }

    private static void promise14_noSuchBridgeCheckOrTrainIsUnknown() {
        RollingLoads x = Made.twoTrains();
        Due.each("no check yet", c -> x.total(0, c, 0, 0, 0, 0), UNKNOWN, -1, 0, 1);
        x.check(0, 1, 6, 200, 0);
        Due.each("bridge", b -> x.total(b, 0, 0, 0, 0, 0), UNKNOWN, -1, 1, 6, MIN, MAX);
        Due.each("check", c -> x.total(0, c, 0, 0, 0, 0), UNKNOWN, -1, 1, 4, 5, MIN, MAX);
        Due.each("train", t -> x.total(0, 0, t, 0, 0, 0), UNKNOWN, NONE, 2, 8, MIN, MAX);
    }

    private static void promise14_modeEndAndWhatOutOfBoundsAreOutside() {
        RollingLoads x = Made.twoTrains();
        x.check(0, 1, 6, 200, 0);
        Due.each("mode", mode -> x.total(0, 0, 0, mode, 0, 0), OUTSIDE, -1, 3, MIN, MAX);
        Due.each("end", end -> x.total(0, 0, 0, 0, end, 0), OUTSIDE, -1, 2, MIN, MAX);
        Due.each("what", what -> x.total(0, 0, 0, 0, 0, what), OUTSIDE, -1, 2, MIN, MAX);
    }

    private static void promise14_unknownIsAheadOfOutside() {
        RollingLoads x = Made.twoTrains();
        x.check(0, 1, 6, 200, 0);
        Due.due("bridge, mode", x.total(1, 0, 0, 3, 0, 0), UNKNOWN);
        Due.due("check, end", x.total(0, 1, 0, 0, 2, 0), UNKNOWN);
        Due.due("train, what", x.total(0, 0, 2, 0, 0, 2), UNKNOWN);
    }

    // ---- promise 15: fails

    private static void promise15_noneWithoutChecks() {
        RollingLoads x = Made.twoTrains();
        Due.each("mode", mode -> x.fails(0, 0, mode), NONE, 0, 1, 2);
    }

    private static void promise15_theFirstThatIsNotMet() {
        RollingLoads x = Made.twoTrains();
        x.check(0, 0, 0, 100000, 0);
        x.check(0, 1, 6, 233, 0);
        x.check(0, 0, 1, 90, 0);
        Due.due("the first of two", x.fails(0, 0, 0), 1);
        x.limit(0, 1, 234, 0);
        Due.due("the other one", x.fails(0, 0, 0), 2);
        Due.due("crawling", x.fails(0, 0, 2), NONE);
        x.limit(0, 0, 90, 0);
        Due.due("the first of two again", x.fails(0, 0, 0), 0);
        x.limit(0, 0, 100000, 0);
        x.limit(0, 2, 91, 0);
        Due.due("all met", x.fails(0, 0, 0), NONE);
        x.usual(0);
        x.rule(0, 1, 2);
        Due.due("with a lane beside", x.fails(0, 0, 0), 1);
        Due.due("escorted", x.fails(0, 0, 1), NONE);
    }

    private static void promise15_theFifthAlone() {
        RollingLoads x = Made.twoTrains();
        for (int c = 0; c < 5; c++) {
            x.check(0, 1, 6, c < 4 ? 234 : 233, 0);
        }
        Due.due("the fifth", x.fails(0, 0, 0), 4);
        x.limit(0, 4, 234, 0);
        Due.due("all met", x.fails(0, 0, 0), NONE);
    }

    private static void promise15_noSuchBridgeOrTrainIsUnknown() {
        RollingLoads x = Made.twoTrains();
        Due.each("bridge", b -> x.fails(b, 0, 0), UNKNOWN, -1, 1, 6, MIN, MAX);
        Due.each("train", t -> x.fails(0, t, 0), UNKNOWN, NONE, 2, 8, MIN, MAX);
        Due.due("bridge ahead of mode", x.fails(1, 0, 3), UNKNOWN);
        Due.due("train ahead of mode", x.fails(0, 2, 3), UNKNOWN);
    }

    private static void promise15_modeBelow0OrAbove2IsOutside() {
        RollingLoads x = Made.twoTrains();
        Due.each("mode", mode -> x.fails(0, 0, mode), OUTSIDE, -1, 3, 4, MIN, MAX);
    }

    // ---- promise 16: posted

    private static void promise16_300WithoutChecks() {
        RollingLoads x = Made.twoTrains();
        Due.due("train 0", x.posted(0, 0), 300);
        Due.due("train 1", x.posted(0, 1), 300);
    }

    /** 4.5 times a weight times 1.3 is the moment: 702 for 120, which is 300 hundredths of 40. */
    private static void promise16_300IsTheMost() {
        RollingLoads x = Made.twoTrains();
        x.check(0, 1, 6, 702, 0);
        Due.due("just met by 300", x.posted(0, 0), 300);
        x.limit(0, 0, 701, 0);
        Due.due("not met by 300", x.posted(0, 0), 299);
        x.limit(0, 0, 100000, 0);
        Due.due("met by far more", x.posted(0, 0), 300);
    }

    /** The moment of 34 and 34 is 198.9, and 40 times 87 / 100 is 34.8. */
    private static void promise16_weightsAreCut() {
        RollingLoads x = Made.twoTrains();
        x.check(0, 1, 6, 200, 0);
        Due.due("to 34", x.posted(0, 0), 87);
        x.limit(0, 0, 0, 0);
        Due.due("to nothing of 40", x.posted(0, 0), 2);
        Due.due("to nothing of 25", x.posted(0, 1), 3);
        x.train(1);
        Due.due("to nothing of 1", x.posted(0, 2), 99);
    }

    private static void promise16_0IfOnlyNothingMeets() {
        RollingLoads x = Made.twoTrains();
        x.check(0, 1, 6, 0, 0);
        x.train(200);
        Due.due("one hundredth of 200 is 2", x.posted(0, 2), 0);
        x.train(100);
        Due.due("one hundredth of 100 is 1", x.posted(0, 3), 0);
        x.train(99);
        Due.due("one hundredth of 99 is 0", x.posted(0, 4), 1);
    }

    /** The others alone are 180 times 1.3: they are not made lighter with the train. */
    private static void promise16_noneIfNotEvenWith0() {
        RollingLoads x = Made.twoTrains();
        x.check(0, 1, 6, 233, 0);
        x.usual(0);
        x.rule(0, 1, 3);
        Due.due("not even with 0", x.posted(0, 0), NONE);
        x.limit(0, 0, 234, 0);
        Due.due("with nothing of 40", x.posted(0, 0), 2);
        // Lifted: by 40 and a quarter of 40, twice a half of it.
        x.bridge(10, Due.bits(2, 6), 0);
        x.rule(1, 1, 3);
        x.check(1, 0, 0, 100000, -64);
        Due.due("not even with 0, for LOW", x.posted(1, 0), NONE);
        x.limit(1, 0, 100000, -65);
        Due.due("with nothing of 40, for LOW", x.posted(1, 0), 2);
    }

    private static void promise16_itIsFreeWithShakeAndOthers() {
        RollingLoads x = Made.twoTrains();
        x.check(0, 1, 6, 180, 0);
        Due.due("40 would do without SHAKE", x.posted(0, 0), 77);
        x.rule(0, 0, 0);
        Due.due("without SHAKE", x.posted(0, 0), 102);
        x.usual(1);
        x.rule(0, 1, 2);
        Due.due("50 less for the others", x.posted(0, 0), 72);
    }

    /** 29 hundredths of 10 and 9 are 2 and 2, which meet; 22 of them are 2 and 1, which do not. */
    private static void promise16_theGreatestThoughALesserFails() {
        RollingLoads x = new RollingLoads();
        x.bridge(6, Due.bits(1, 5), 0);
        x.rule(0, 0, 0);
        Made.train(x, 10, 3, 9);
        Made.train(x, 2, 3, 1);
        x.check(0, 1, 3, 1, -26);
        Due.due("2 and 1", x.fails(0, 1, 0), 0);
        Due.due("posted", x.posted(0, 0), 29);
    }

    /** Two checks that fail in turn: each p is held against both. */
    private static void promise16_allChecksAreToBeMet() {
        RollingLoads x = Made.twoTrains();
        x.rule(0, 0, 0);
        x.check(0, 0, 0, 70, 0);
        x.check(0, 0, 1, 69, 0);
        Due.due("the second check is met later", x.posted(0, 0), 99);
        x.limit(0, 0, 55, 0);
        Due.due("the first check is met later", x.posted(0, 0), 79);
    }

    private static void promise16_noSuchBridgeOrTrainIsUnknown() {
        RollingLoads x = Made.twoTrains();
        Due.each("bridge", b -> x.posted(b, 0), UNKNOWN, -1, 1, 6, MIN, MAX);
        Due.each("train", t -> x.posted(0, t), UNKNOWN, NONE, 2, 8, MIN, MAX);
    }

    // ---- promise 17: spread

    private static void promise17_0WithoutChecksOrIfMetAsItIs() {
        RollingLoads x = Made.twoTrains();
        Due.each("without checks, mode", mode -> x.spread(0, 0, mode), 0, 0, 1, 2);
        x.check(0, 1, 6, 180, 0);
        Due.due("crawling, as it is", x.spread(0, 0, 2), 0);
        x.limit(0, 0, 179, 0);
        Due.due("crawling, a little wider", x.spread(0, 0, 2), 1);
    }

    private static void promise17_theLeastThatMeetsAllInAMode() {
        RollingLoads x = Made.twoTrains();
        x.check(0, 1, 6, 200, 0);
        x.check(0, 0, 0, 70, 0);
        Due.due("crawling, as it is", x.spread(0, 0, 2), 0);
        // 40 and 40 (9 - k) / 12 are at most 70 / 1.3 from k = 5 on.
        Due.due("free", x.spread(0, 0, 0), 5);
        Due.due("escorted", x.spread(0, 0, 1), 5);
        // 52 is 1.3 times 40: only one axle may be on the beam, or the other at its far end.
        x.limit(0, 0, 156, 0);
        x.limit(0, 1, 52, 0);
        Due.due("one axle at a time", x.spread(0, 0, 1), 9);
        x.limit(0, 1, 51, 0);
        Due.due("never", x.spread(0, 0, 1), NONE);
    }

    /** Two of 100, 20 and k apart on 60: the support bears 100 and 100 (40 - k) / 60. */
    private static void promise17_20IsTheMost() {
        RollingLoads x = Made.beam(60);
        Made.train(x, 100, 20, 100);
        x.rule(0, 0, 0);
        x.check(0, 0, 0, 134, 0);
        Due.due("133 and a third by 20", x.spread(0, 0, 0), 20);
        x.limit(0, 0, 135, 0);
        Due.due("135 by 19", x.spread(0, 0, 0), 19);
        x.limit(0, 0, 133, 0);
        Due.due("131 and two thirds would be by 21", x.spread(0, 0, 0), NONE);
    }

    /** Supports at 5 and 7: between them 8 and 8 are above 0 with a gap of 1 and from 7 on. */
    private static void promise17_aWiderGapMayFailAgain() {
        RollingLoads x = new RollingLoads();
        x.bridge(12, Due.bits(5, 7), 0);
        Made.train(x, 8, 1, 8);
        Made.train(x, 8, 6, 8);
        Made.train(x, 8, 7, 8);
        x.check(0, 1, 6, 0, -100000);
        Due.due("from 1 to 2", x.spread(0, 0, 0), 1);
        Due.due("6 as it is", x.spread(0, 1, 0), 0);
        Due.due("7 never again", x.spread(0, 2, 0), NONE);
    }

    private static void promise17_oneAxleCanNotBeSpread() {
        RollingLoads x = Made.beam(12);
        x.train(40);
        x.check(0, 0, 0, 40, 0);
        Due.due("crawling", x.spread(0, 0, 2), 0);
        Due.due("free", x.spread(0, 0, 0), NONE);
    }

    private static void promise17_theOthersKeepTheirGaps() {
        RollingLoads x = Made.twoTrains();
        x.check(0, 0, 0, 52, 0);
        Due.due("alone", x.spread(0, 0, 0), 9);
        x.usual(0);
        x.rule(0, 1, 2);
        Due.due("free, with a lane beside", x.spread(0, 0, 0), NONE);
        Due.due("escorted", x.spread(0, 0, 1), 9);
        // 40, and half of 40 and 30, times 1.3: spread too, the others would have 20 and no more.
        x.limit(0, 0, 97, 0);
        Due.due("97 is not enough", x.spread(0, 0, 0), NONE);
        x.limit(0, 0, 98, 0);
        Due.due("97 and a half", x.spread(0, 0, 0), 9);
    }

    /** Gaps of 20 that grow by up to 20, on the longest beam: the longest roll of all. */
    private static void promise17_theLongestRoll() {
        RollingLoads x = Made.beam(60);
        Made.train(x, 100, 20, 100, 20, 100, 20, 100, 20, 100, 20, 100, 20, 100, 20, 100);
        x.rule(0, 0, 0);
        x.check(0, 0, 0, 133, 0);
        Due.due("two at a time, 40 apart, are 133 and a third", x.spread(0, 0, 0), NONE);
        x.limit(0, 0, 134, 0);
        Due.due("134", x.spread(0, 0, 0), 20);
        // A support at 10 is lifted by a load at 60 alone, and so it is most at the very last time,
        // with the heavy axle there and nothing behind it.
        x.bridge(60, Due.bits(10, 50), 0);
        x.rule(1, 0, 0);
        Made.train(x, 4, 20, 4, 20, 4, 20, 4, 20, 4, 20, 4, 20, 4, 20, 200);
        x.check(1, 0, 0, 100000, -49);
        Due.due("lifted by 50, however it is spread", x.spread(1, 1, 0), NONE);
        x.limit(1, 0, 100000, -50);
        Due.due("which may be", x.spread(1, 1, 0), 0);
    }

    /** Two checks that fail in turn: each k is held against both. */
    private static void promise17_allChecksAreToBeMet() {
        RollingLoads x = Made.twoTrains();
        x.rule(0, 0, 0);
        x.check(0, 0, 0, 70, 0);
        x.check(0, 0, 1, 69, 0);
        Due.due("the second check wants more room", x.spread(0, 0, 0), 1);
        x.limit(0, 0, 55, 0);
        Due.due("the first check wants more room", x.spread(0, 0, 0), 5);
    }

    private static void promise17_theTrainStaysAsItWas() {
        RollingLoads x = Made.twoTrains();
        x.check(0, 0, 0, 52, 0);
        x.spread(0, 0, 1);
        x.posted(0, 0);
        Due.due("its gaps", x.axles(0, NONE, 1), 3);
        Due.due("its first weight", x.axles(0, 0, 0), 40);
        Due.due("its second weight", x.axles(0, 1, 0), 40);
    }

    private static void promise17_noSuchBridgeOrTrainIsUnknown() {
        RollingLoads x = Made.twoTrains();
        Due.each("bridge", b -> x.spread(b, 0, 0), UNKNOWN, -1, 1, 6, MIN, MAX);
        Due.each("train", t -> x.spread(0, t, 0), UNKNOWN, NONE, 2, 8, MIN, MAX);
        Due.due("bridge ahead of mode", x.spread(1, 0, 3), UNKNOWN);
        Due.due("train ahead of mode", x.spread(0, 2, 3), UNKNOWN);
    }

    private static void promise17_modeBelow0OrAbove2IsOutside() {
        RollingLoads x = Made.twoTrains();
        Due.each("mode", mode -> x.spread(0, 0, mode), OUTSIDE, -1, 3, 4, MIN, MAX);
    }

    public static void main(String[] args) {
        Cases.run(ChecksTest.class, Cases.parts("promise", 11, 17));
    }
}
