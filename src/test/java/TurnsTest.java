import java.math.BigInteger;

/** Promises 21 to 24: wear, traffic, worn, count. */
public final class TurnsTest {
    private static final int NONE = RollingLoads.NONE;
    private static final int UNKNOWN = RollingLoads.UNKNOWN;
    private static final int OUTSIDE = RollingLoads.OUTSIDE;
    private static final int MIN = Integer.MIN_VALUE;
    private static final int MAX = Integer.MAX_VALUE;

    private static void wear(RollingLoads x, int b, int kind, int at, int t, long... want) {
        for (int what = 0; what < 3; what++) {
            Due.due("wear " + b + " " + kind + " " + at + " " + t + " what " + what,
                    x.wear(b, kind, at, t, what), want[what]);
        }
    }

    private static long cube(long size) {
        return size * size * size;
    }

    /** A beam of 10 on its ends and an axle of 10: up to 24 for the moment at 4. */
    private static RollingLoads beamOfTen() {
        RollingLoads x = Made.beam(10);
        x.train(10);
        return x;
    }

    // ---- promise 21: wear

    private static void promise21_upAndDownAreTwoHalfTurns() {
        RollingLoads x = beamOfTen();
        wear(x, 0, 1, 4, 0, 2 * cube(24), 0, 2);
        // From 0 to 10 at once and down; and slowly up and down at once.
        wear(x, 0, 0, 0, 0, 2000, 0, 2);
        wear(x, 0, 0, 1, 0, 2000, 0, 2);
    }

    /** What is left is one step of 0, from the first number of the row to the last. */
    private static void promise21_whereAllIsNoughtOneStepIsLeft() {
        RollingLoads x = beamOfTen();
        wear(x, 0, 1, 0, 0, 0, 0, 1);
        wear(x, 0, 1, 10, 0, 0, 0, 1);
    }

    /** A weight of 7 at place 5 makes 35 / 2, of which 17 counts; one of 1 at place 1 makes 9 / 10. */
    private static void promise21_sizesAreCut() {
        RollingLoads x = Made.beam(10);
        x.train(7);
        x.train(1);
        wear(x, 0, 1, 5, 0, 2 * cube(17), 0, 2);
        wear(x, 0, 1, 1, 1, 0, 0, 2);
        wear(x, 0, 0, 0, 1, 2, 0, 2);
    }

    /** Two like axles 20 apart, one at a time: 0, 24, 0, 24, 0. */
    private static void promise21_aWholeTurnOfLikeSteps() {
        RollingLoads x = beamOfTen();
        x.axle(0, 20, 10);
        wear(x, 0, 1, 4, 0, 4 * cube(24), 1, 2);
    }

    /** 0, 24, 0, 12, 0: of the last four the inner step is like the last one. */
    private static void promise21_aWholeTurnWhoseStepIsLikeTheLast() {
        RollingLoads x = beamOfTen();
        x.axle(0, 20, 5);
        wear(x, 0, 1, 4, 0, 2 * cube(24) + 2 * cube(12), 1, 2);
    }

    /** 0, 12, 0, 24, 0: the inner step of 12 is like the first one. */
    private static void promise21_aWholeTurnWhoseStepIsLikeTheFirst() {
        RollingLoads x = Made.beam(10);
        Made.train(x, 5, 20, 10);
        wear(x, 0, 1, 4, 0, 2 * cube(12) + 2 * cube(24), 1, 2);
    }

    /** 0, 24, 0, 12, 0, 24, 0: 12 up and down goes out first, then 24. */
    private static void promise21_wholeTurnsThatComeOfWholeTurns() {
        RollingLoads x = beamOfTen();
        x.axle(0, 20, 5);
        x.axle(0, 20, 10);
        wear(x, 0, 1, 4, 0, 4 * cube(24) + 2 * cube(12), 2, 2);
    }

    /**
     * 0, 165, -60, 15, -45 / 2, 0: steps that grow less all the time are half turns; and a whole turn of
     * 15 / 2, of which 7 counts, between half turns of 93.
     */
    private static void promise21_stepsThatGrowLessAreHalfTurns() {
        RollingLoads x = new RollingLoads();
        x.bridge(30, Due.bits(0, 10, 20, 30), Due.bits(13, 17));
        Made.train(x, 30, 4, 60, 9, 15);
        wear(x, 0, 1, 5, 0, cube(165) + cube(225) + cube(75) + cube(37) + cube(22), 0, 5);
        wear(x, 0, 0, 1, 0, 2 * cube(7) + 2 * cube(93), 1, 2);
    }

    /** 0, 15, -210, 2940, 0: each arm turns 14 times as much as the one before. */
    private static void promise21_stepsThatGrowAreHalfTurns() {
        RollingLoads x = arms(1);
        wear(x, 0, 0, 2, 0, cube(15) + cube(225) + cube(3150) + cube(2940), 0, 4);
    }

    /** The same train the other way round turns otherwise: by way 1 both would wear as the other one. */
    private static void promise21_way0Alone() {
        RollingLoads x = new RollingLoads();
        x.bridge(10, Due.bits(0, 8), 0);
        Made.train(x, 20, 4, 5);
        Made.train(x, 5, 4, 20);
        // In eighths: 0, 300, -90, 15, -30, 0.
        wear(x, 0, 1, 3, 0, cube(37) + cube(48) + cube(13) + cube(5) + cube(3), 0, 5);
        // In eighths: 0, 75, 60, 315, -120, 0, of which 75 and 60 are a whole turn.
        wear(x, 0, 1, 3, 1, 2 + cube(39) + cube(54) + cube(15), 1, 3);
    }

    /**
     * Supports at 0 and 1, and behind each hinge one with an arm of 14: a load at a hinge, or at the end,
     * bears 14 times as much on what is ahead as one at the hinge before, the other way.
     */
    private static RollingLoads arms(int weight) {
        RollingLoads x = new RollingLoads();
        x.bridge(60, Due.bits(0, 1, 16, 31, 46), Due.bits(15, 30, 45));
        x.train(weight);
        return x;
    }

    private static BigInteger sumOfCubes(long... sizes) {
        BigInteger sum = BigInteger.ZERO;
        for (long size : sizes) {
            sum = sum.add(BigInteger.valueOf(size).pow(3));
        }
        return sum;
    }

    /** Support 0 bears 1, -14, 196, -2744, 38416 times 200 at place 0, the hinges and the end. */
    private static BigInteger wearOfTheArms() {
        return sumOfCubes(200, 3000, 42000, 588000, 8232000, 7683200);
    }

    private static void promise21_aLongThatWraps() {
        RollingLoads x = arms(200);
        Due.due("at the end", x.effect(0, 0, 0, 0, 0, 60, 0), 7683200);
        Due.holds("no long has room for it", wearOfTheArms().bitLength() > 63);
        wear(x, 0, 0, 0, 0, wearOfTheArms().longValue(), 0, 6);
    }

    /** Eight axles of 200: twice the third power of a whole turn wraps as well. */
    private static void promise21_wholeTurnsThatWrap() {
        RollingLoads x = arms(200);
        Oracle o = new Oracle();
        o.bridge(60, Due.bits(0, 1, 16, 31, 46), Due.bits(15, 30, 45));
        o.train(200);
        for (int n = 2; n <= 8; n++) {
            x.axle(0, 2 * n, 200);
            o.axle(0, 2 * n, 200);
        }
        long whole = 0;
        for (int at = 0; at < 5; at++) {
            wear(x, 0, 0, at, 0, o.wear(0, 0, at, 0, 0), o.wear(0, 0, at, 0, 1), o.wear(0, 0, at, 0, 2));
            whole += o.wear(0, 0, at, 0, 1);
        }
        for (int at = 0; at <= 60; at++) {
            wear(x, 0, 1, at, 0, o.wear(0, 1, at, 0, 0), o.wear(0, 1, at, 0, 1), o.wear(0, 1, at, 0, 2));
            whole += o.wear(0, 1, at, 0, 1);
        }
        Due.holds("there are whole turns", whole > 0);
    }

    private static void promise21_whatBelow0OrAbove2IsOutside() {
        RollingLoads x = beamOfTen();
        Due.each("what", what -> x.wear(0, 0, 0, 0, what), OUTSIDE, -1, 3, 4, MIN, MAX);
    }

    private static void promise21_noSuchResponse() {
        RollingLoads x = beamOfTen();
        Due.each("kind", kind -> x.wear(0, kind, 0, 0, 0), OUTSIDE, -1, 2, MIN, MAX);
        Due.each("place", at -> x.wear(0, 1, at, 0, 0), OUTSIDE, -1, 11, MIN, MAX);
        Due.each("support", at -> x.wear(0, 0, at, 0, 0), UNKNOWN, -1, 2, MIN, MAX);
    }

    private static void promise21_noSuchBridgeOrTrainIsUnknown() {
        RollingLoads x = beamOfTen();
        Due.each("bridge", b -> x.wear(b, 1, 4, 0, 0), UNKNOWN, -1, 1, 6, MIN, MAX);
        Due.each("train", t -> x.wear(0, 1, 4, t, 0), UNKNOWN, NONE, 1, 8, MIN, MAX);
    }

    private static void promise21_unknownIsAheadOfOutside() {
        RollingLoads x = beamOfTen();
        Due.due("bridge, kind", x.wear(1, 2, 0, 0, 0), UNKNOWN);
        Due.due("support, what", x.wear(0, 0, 2, 0, 3), UNKNOWN);
        Due.due("train, kind", x.wear(0, 2, 0, 1, 0), UNKNOWN);
        Due.due("train, place", x.wear(0, 1, 11, 1, 0), UNKNOWN);
    }

    // ---- promise 22: traffic

    private static void promise22_from0To1000AndWhatItWas() {
        RollingLoads x = beamOfTen();
        Due.due("0 at first", x.traffic(0, 1000), 0);
        Due.due("1000 before", x.traffic(0, 1), 1000);
        Due.due("1 before", x.traffic(0, 0), 1);
        Due.due("0 before", x.traffic(0, 0), 0);
    }

    private static void promise22_below0OrAbove1000IsOutside() {
        RollingLoads x = beamOfTen();
        x.traffic(0, 7);
        Due.each("n", n -> x.traffic(0, n), OUTSIDE, -1, 1001, MIN, MAX);
        Due.due("refused changes nothing", x.traffic(0, 7), 7);
    }

    private static void promise22_aTrainThatThereIsNotIsUnknown() {
        RollingLoads x = beamOfTen();
        Due.each("train", t -> x.traffic(t, 1), UNKNOWN, NONE, 1, 8, MIN, MAX);
        Due.due("ahead of n", x.traffic(1, 1001), UNKNOWN);
        Due.due("ahead of n below", x.traffic(NONE, -1), UNKNOWN);
        Due.due("none came of it", x.count(5), 0);
    }

    private static void promise22_eachTrainHasItsOwn() {
        RollingLoads x = beamOfTen();
        x.train(20);
        x.traffic(0, 3);
        Due.due("0 of the other", x.traffic(1, 5), 0);
        Due.due("3 before", x.traffic(0, 4), 3);
        Due.due("5 before", x.traffic(1, 0), 5);
        x.train(30);
        Due.due("0 of a new one", x.traffic(2, 0), 0);
    }

    // ---- promise 23: worn

    private static void promise23_trafficTimesWear() {
        RollingLoads x = beamOfTen();
        x.train(20);
        Due.due("nothing worn yet", x.worn(0, 1, 5), 0);
        x.traffic(0, 1);
        Due.due("once 25, up and down", x.worn(0, 1, 5), 2 * cube(25));
        x.traffic(0, 3);
        Due.due("3 times", x.worn(0, 1, 5), 6 * cube(25));
        x.traffic(1, 1000);
        Due.due("and 1000 times 50", x.worn(0, 1, 5), 6 * cube(25) + 2000 * cube(50));
        x.traffic(0, 0);
        Due.due("1000 times 50", x.worn(0, 1, 5), 2000 * cube(50));
        Due.due("of a support", x.worn(0, 0, 0), 1000 * 2 * cube(20));
        Due.due("of the other one", x.worn(0, 0, 1), 1000 * 2 * cube(20));
        Due.due("of the end, where nothing turns", x.worn(0, 1, 10), 0);
    }

    private static void promise23_noughtWithoutTrains() {
        RollingLoads x = Made.beam(10);
        Due.due("of a moment", x.worn(0, 1, 5), 0);
        Due.due("of a support", x.worn(0, 0, 1), 0);
    }

    private static void promise23_allEightTrains() {
        RollingLoads x = Made.beam(10);
        long want = 0;
        for (int t = 0; t < 8; t++) {
            x.train(2 * t + 2);
            x.traffic(t, t + 1);
            want += (t + 1) * 2 * cube(2 * t + 2);
        }
        Due.due("all", x.worn(0, 0, 0), want);
    }

    private static void promise23_aLongThatWraps() {
        RollingLoads x = arms(200);
        x.traffic(0, 1000);
        BigInteger want = wearOfTheArms().multiply(BigInteger.valueOf(1000));
        Due.due("1000 times what wraps", x.worn(0, 0, 0), want.longValue());
        // Without the last arm 1000 times its wear wraps, though the wear does not.
        BigInteger once = sumOfCubes(200, 3000, 42000, 588000, 548800);
        Due.holds("the wear has room", once.bitLength() <= 63);
        Due.holds("1000 times it has not", once.multiply(BigInteger.valueOf(1000)).bitLength() > 63);
        x.bridge(46, Due.bits(0, 1, 16, 31, 46), Due.bits(15, 30, 45));
        Due.due("wear", x.wear(1, 0, 0, 0, 0), once.longValue());
        Due.due("worn", x.worn(1, 0, 0), once.multiply(BigInteger.valueOf(1000)).longValue());
    }

    private static void promise23_noSuchBridgeOrSupportIsUnknown() {
        RollingLoads x = beamOfTen();
        Due.each("bridge", b -> x.worn(b, 1, 0), UNKNOWN, -1, 1, 6, MIN, MAX);
        Due.each("support", at -> x.worn(0, 0, at), UNKNOWN, -1, 2, MIN, MAX);
        Due.due("bridge ahead of kind", x.worn(1, 2, 0), UNKNOWN);
        Due.due("bridge ahead of place", x.worn(1, 1, 11), UNKNOWN);
    }

    private static void promise23_kindAndPlaceOutOfBoundsAreOutside() {
        RollingLoads x = beamOfTen();
        x.traffic(0, 1);
        Due.each("kind", kind -> x.worn(0, kind, 0), OUTSIDE, -1, 2, MIN, MAX);
        Due.each("place", at -> x.worn(0, 1, at), OUTSIDE, -1, 11, MIN, MAX);
        Due.each("place inside", at -> x.worn(0, 1, at), 0, 0, 10);
    }

    // ---- promise 24: count

    private static void counts(RollingLoads x, int... want) {
        for (int what = 0; what < want.length; what++) {
            Due.due("count(" + what + ")", x.count(what), want[what]);
        }
    }

    private static void promise24_nothingYet() {
        counts(new RollingLoads(), 0, 0, 0, 0, NONE, 0);
    }

    private static void promise24_howManyOfEach() {
        RollingLoads x = beamOfTen();
        x.bridge(12, Due.bits(0, 12), 0);
        x.train(5);
        x.train(6);
        x.check(0, 0, 0, 1, 0);
        x.check(1, 0, 0, 1, 0);
        x.check(1, 0, 1, 1, 0);
        x.check(1, 1, 6, 1, 0);
        for (int to = 1; to <= 5; to++) {
            x.road(0, to, 1, NONE);
        }
        x.usual(2);
        x.traffic(0, 400);
        x.traffic(2, 700);
        counts(x, 2, 3, 5, 4, 2, 1100);
    }

    private static void promise24_allTablesFull() {
        RollingLoads x = Made.full();
        for (int t = 0; t < 8; t++) {
            x.traffic(t, 1000);
        }
        counts(x, 6, 8, 24, 30, 7, 8000);
    }

    private static void promise24_usualTrain0IsNotNone() {
        RollingLoads x = beamOfTen();
        x.usual(0);
        Due.due("train 0", x.count(4), 0);
        x.usual(NONE);
        Due.due("none", x.count(4), NONE);
    }

    private static void promise24_whatBelow0OrAbove5IsOutside() {
        RollingLoads x = beamOfTen();
        Due.each("what", x::count, OUTSIDE, -1, 6, 7, MIN, MAX);
    }

    public static void main(String[] args) {
        Cases.run(TurnsTest.class, Cases.parts("promise", 21, 24));
    }
}
