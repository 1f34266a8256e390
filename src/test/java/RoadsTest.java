/** Promises 18 to 20: road, route, why. */
public final class RoadsTest {
    private static final int NONE = RollingLoads.NONE;
    private static final int UNKNOWN = RollingLoads.UNKNOWN;
    private static final int OUTSIDE = RollingLoads.OUTSIDE;
    private static final int FULL = RollingLoads.FULL;
    private static final int MIN = Integer.MIN_VALUE;
    private static final int MAX = Integer.MAX_VALUE;

    // ---- promise 18: road

    private static void promise18_townsFrom0To9() {
        RollingLoads x = Made.beam(10);
        Due.due("0 to 9", x.road(0, 9, 1, NONE), 0);
        Due.due("9 to 0", x.road(9, 0, 1, NONE), 1);
        Due.each("from", from -> x.road(from, 5, 1, NONE), UNKNOWN, -1, 10, MIN, MAX);
        Due.each("to", to -> x.road(5, to, 1, NONE), UNKNOWN, -1, 10, MIN, MAX);
        Due.due("two", x.count(2), 2);
    }

    private static void promise18_aBridgeOrNone() {
        RollingLoads x = Made.beam(10);
        Due.due("over bridge 0", x.road(0, 1, 1, 0), 0);
        Due.due("over none", x.road(0, 1, 1, NONE), 1);
        Due.each("over bridge", b -> x.road(0, 1, 1, b), UNKNOWN, -2, 1, 5, 6, MIN, MAX);
    }

    private static void promise18_milesFrom1To500() {
        RollingLoads x = Made.beam(10);
        x.train(1);
        Due.each("miles", miles -> x.road(0, 1, miles, NONE), OUTSIDE, 0, -1, 501, MIN, MAX);
        Due.due("none yet", x.count(2), 0);
        Due.due("500 miles", x.road(0, 1, 500, NONE), 0);
        Due.due("500 are kept", x.route(0, 0, 0, 1, 0), 500);
        Due.due("1 mile", x.road(0, 1, 1, NONE), 1);
        Due.due("1 is kept", x.route(0, 0, 0, 1, 0), 1);
    }

    private static void promise18_oneTownTwiceIsOutside() {
        RollingLoads x = Made.beam(10);
        Due.each("town", town -> x.road(town, town, 1, NONE), OUTSIDE, 0, 3, 9);
        Due.each("town that there is not,", town -> x.road(town, town, 1, NONE), UNKNOWN, -1, 10);
    }

    private static void promise18_the25thIsFull() {
        RollingLoads x = Made.beam(10);
        for (int r = 0; r < 24; r++) {
            Due.due("road " + r, x.road(r % 9, 9, r == 0 ? 1 : 500, r % 2 == 0 ? 0 : NONE), r);
        }
        Due.due("the 25th", x.road(5, 9, 1, 0), FULL);
        Due.due("the 25th again", x.road(0, 1, 1, NONE), FULL);
        Due.due("24", x.count(2), 24);
        x.train(1);
        Due.due("over the first", x.route(0, 0, 0, 9, 2), 0);
        Due.due("over the first that goes there", x.route(0, 0, 5, 9, 2), 5);
        Due.due("with its miles", x.route(0, 0, 5, 9, 0), 500);
    }

    private static void promise18_the24thIsARoad() {
        RollingLoads x = new RollingLoads();
        x.train(1);
        for (int r = 0; r < 23; r++) {
            x.road(0, 1, 500, NONE);
        }
        Due.due("the 24th", x.road(8, 9, 7, NONE), 23);
        Due.due("is gone", x.route(0, 0, 9, 8, 2), 23);
        Due.due("with its miles", x.route(0, 0, 9, 8, 0), 7);
    }

    private static void promise18_refusalsInTheirOrder() {
        RollingLoads x = Made.full();
        Due.due("town ahead of miles", x.road(10, 0, 0, NONE), UNKNOWN);
        Due.due("the other town ahead of miles", x.road(0, 10, 0, NONE), UNKNOWN);
        Due.due("bridge ahead of miles", x.road(0, 1, 0, 6), UNKNOWN);
        Due.due("bridge ahead of one town twice", x.road(0, 0, 1, 6), UNKNOWN);
        Due.due("bridge ahead of FULL", x.road(0, 1, 1, 6), UNKNOWN);
        Due.due("town ahead of FULL", x.road(0, 10, 1, NONE), UNKNOWN);
        Due.due("miles ahead of FULL", x.road(0, 1, 501, NONE), OUTSIDE);
        Due.due("one town twice ahead of FULL", x.road(1, 1, 1, NONE), OUTSIDE);
        Due.due("FULL comes last", x.road(0, 1, 1, NONE), FULL);
    }

    // ---- promise 19: route

    private static void route(RollingLoads x, int mode, int from, int to, int... want) {
        for (int what = 0; what < 12; what++) {
            Due.due("route mode " + mode + " " + from + " to " + to + " what " + what,
                    x.route(0, mode, from, to, what), what < want.length ? want[what] : NONE);
        }
    }

    private static RollingLoads oneTrain() {
        RollingLoads x = new RollingLoads();
        x.train(50);
        return x;
    }

    private static void promise19_noneOfAllWithoutARoute() {
        RollingLoads x = oneTrain();
        route(x, 0, 0, 1);
        x.road(0, 1, 10, NONE);
        x.road(2, 3, 10, NONE);
        route(x, 0, 0, 3);
        route(x, 0, 9, 0);
    }

    private static void promise19_theLeastMiles() {
        RollingLoads x = oneTrain();
        x.road(0, 1, 10, NONE);
        x.road(1, 2, 10, NONE);
        x.road(0, 2, 21, NONE);
        route(x, 0, 0, 2, 20, 2, 0, 1);
        route(x, 0, 2, 0, 20, 2, 1, 0);
    }

    private static void promise19_ofLikeMilesTheFewestRoads() {
        RollingLoads x = oneTrain();
        x.road(0, 1, 10, NONE);
        x.road(1, 2, 10, NONE);
        x.road(2, 0, 20, NONE);
        route(x, 0, 0, 2, 20, 1, 2);
        // 2 to 3 in one step of 3 or two steps of 1 and 2, and so from 0 to 3.
        x.road(2, 4, 1, NONE);
        x.road(4, 3, 2, NONE);
        x.road(3, 2, 3, NONE);
        route(x, 0, 0, 3, 23, 2, 2, 5);
    }

    private static void promise19_ofLikeRoadsTheFirstNumber() {
        RollingLoads x = oneTrain();
        x.road(0, 2, 21, NONE);
        x.road(2, 0, 20, NONE);
        x.road(0, 2, 20, NONE);
        route(x, 0, 0, 2, 20, 1, 1);
        route(x, 0, 2, 0, 20, 1, 1);
    }

    /** Looked at from where it begins. */
    private static void promise19_theFirstByNumbersOneAfterTheOther() {
        RollingLoads x = oneTrain();
        x.road(2, 3, 5, NONE);
        x.road(0, 2, 5, NONE);
        x.road(0, 1, 5, NONE);
        x.road(1, 3, 5, NONE);
        route(x, 0, 0, 3, 10, 2, 1, 0);
        route(x, 0, 3, 0, 10, 2, 0, 1);
        RollingLoads y = oneTrain();
        y.road(0, 1, 5, NONE);
        y.road(3, 2, 5, NONE);
        y.road(0, 2, 5, NONE);
        y.road(1, 3, 5, NONE);
        route(y, 0, 0, 3, 10, 2, 0, 3);
        route(y, 0, 3, 0, 10, 2, 1, 2);
    }

    private static void promise19_theLongestHasNineRoads() {
        RollingLoads x = oneTrain();
        for (int town = 9; town > 0; town--) {
            x.road(town, town - 1, 500, NONE);
        }
        route(x, 2, 0, 9, 4500, 9, 8, 7, 6, 5, 4, 3, 2, 1, 0);
        route(x, 2, 9, 0, 4500, 9, 0, 1, 2, 3, 4, 5, 6, 7, 8);
        // Laid in the order that is worst for looking from the goal on.
        RollingLoads y = oneTrain();
        for (int town = 0; town < 9; town++) {
            y.road(town, town + 1, 500, NONE);
        }
        route(y, 2, 0, 9, 4500, 9, 0, 1, 2, 3, 4, 5, 6, 7, 8);
        route(y, 2, 9, 0, 4500, 9, 8, 7, 6, 5, 4, 3, 2, 1, 0);
    }

    private static void promise19_manyMilesByNineRoadsBeatOneMileMore() {
        RollingLoads x = oneTrain();
        for (int town = 0; town < 9; town++) {
            x.road(town, town + 1, town == 0 ? 42 : 57, NONE);
        }
        x.road(0, 9, 499, NONE);
        route(x, 0, 0, 9, 498, 9, 0, 1, 2, 3, 4, 5, 6, 7, 8);
        x.road(0, 9, 498, NONE);
        route(x, 0, 0, 9, 498, 1, 10);
    }

    private static void promise19_onlyOverBridgesThatAreMet() {
        RollingLoads x = Made.twoBridges();
        route(x, 0, 0, 1);
        route(x, 2, 0, 1, 5, 1, 0);
        x.limit(1, 1, 260, 0);
        route(x, 0, 0, 1, 10, 2, 1, 2);
        route(x, 0, 0, 3);
        route(x, 0, 2, 1, 5, 1, 2);
        x.limit(0, 0, 130, 0);
        route(x, 0, 0, 3, 12, 2, 0, 3);
        // With other lanes full it fails, escorted it does not.
        x.usual(0);
        x.rule(0, 1, 2);
        route(x, 0, 0, 3);
        route(x, 1, 0, 3, 12, 2, 0, 3);
    }

    private static void promise19_aBridgeWithoutChecksLetsThrough() {
        RollingLoads x = Made.beam(10);
        x.train(200);
        x.road(0, 1, 3, 0);
        route(x, 0, 0, 1, 3, 1, 0);
    }

    private static void promise19_whatBelow0OrAbove11IsOutside() {
        RollingLoads x = Made.twoBridges();
        Due.each("what", what -> x.route(0, 2, 0, 1, what), OUTSIDE, -1, 12, 13, MIN, MAX);
        Due.each("what, without a route,", what -> x.route(0, 2, 0, 9, what), OUTSIDE, -1, 12, 13, MIN, MAX);
    }

    private static void promise19_modeBelow0OrAbove2IsOutside() {
        RollingLoads x = Made.twoBridges();
        Due.each("mode", mode -> x.route(0, mode, 0, 1, 0), OUTSIDE, -1, 3, MIN, MAX);
    }

    private static void promise19_oneTownTwiceIsOutside() {
        RollingLoads x = Made.twoBridges();
        Due.each("town", town -> x.route(0, 2, town, town, 0), OUTSIDE, 0, 1, 9);
    }

    private static void promise19_noSuchTrainOrTownIsUnknown() {
        RollingLoads x = Made.twoBridges();
        Due.each("train", t -> x.route(t, 0, 0, 1, 0), UNKNOWN, NONE, 1, 8, MIN, MAX);
        Due.each("from", from -> x.route(0, 0, from, 1, 0), UNKNOWN, -1, 10, MIN, MAX);
        Due.each("to", to -> x.route(0, 0, 0, to, 0), UNKNOWN, -1, 10, MIN, MAX);
        Due.due("a town twice that there is not", x.route(0, 0, 10, 10, 0), UNKNOWN);
    }

    private static void promise19_unknownIsAheadOfOutside() {
        RollingLoads x = Made.twoBridges();
        Due.due("train, mode", x.route(1, 3, 0, 1, 0), UNKNOWN);
        Due.due("train, one town twice", x.route(1, 0, 0, 0, 0), UNKNOWN);
        Due.due("from, what", x.route(0, 0, 10, 1, 12), UNKNOWN);
        Due.due("to, mode", x.route(0, 3, 0, 10, 0), UNKNOWN);
    }

    // ---- promise 20: why

    private static void promise20_noneIfThereIsARoute() {
        RollingLoads x = Made.twoBridges();
        Due.due("crawling", x.why(0, 2, 0, 1), NONE);
        x.limit(1, 1, 260, 0);
        Due.due("a way round", x.why(0, 0, 0, 1), NONE);
        Due.due("over no bridge", x.why(0, 0, 1, 2), NONE);
    }

    private static void promise20_noneIfThereWouldBeNoneEither() {
        RollingLoads x = Made.twoBridges();
        Due.due("to a town without roads", x.why(0, 0, 0, 9), NONE);
        Due.due("from a town without roads", x.why(0, 0, 9, 0), NONE);
        x.road(8, 9, 1, 0);
        Due.due("to a town with a road from elsewhere", x.why(0, 0, 0, 9), NONE);
        Due.due("along that road", x.why(0, 0, 8, 9), 0);
    }

    private static void promise20_theFirstCheckOfTheBridgeThatIsNotMet() {
        RollingLoads x = Made.twoBridges();
        Due.due("the first check of bridge 0", x.why(0, 0, 0, 1), 0);
        Due.due("the second check of bridge 1", x.why(0, 0, 0, 2), 11);
        x.limit(0, 0, 130, 0);
        Due.due("a way round over bridge 0", x.why(0, 0, 0, 2), NONE);
        RollingLoads y = Made.twoBridges();
        y.road(2, 4, 5, 1);
        Due.due("the second check of bridge 1", y.why(0, 0, 2, 4), 11);
        y.limit(1, 0, 64, 0);
        Due.due("the first check of bridge 1", y.why(0, 0, 2, 4), 10);
        y.limit(1, 1, 260, 0);
        Due.due("the first check of bridge 1 alone", y.why(0, 0, 2, 4), 10);
    }

    /** From the route's beginning on, not by the bridges' numbers. */
    private static void promise20_alongTheWay() {
        RollingLoads x = Made.twoBridges();
        x.road(2, 4, 5, 1);
        x.road(4, 5, 5, 0);
        Due.due("bridge 1 first", x.why(0, 0, 2, 5), 11);
        Due.due("bridge 0 first", x.why(0, 0, 5, 2), 0);
        Due.due("over no bridge, then 1", x.why(0, 0, 1, 4), 11);
        x.limit(1, 1, 260, 0);
        Due.due("over bridge 1, which is met, then 0", x.why(0, 0, 2, 5), 0);
    }

    /** The way that there would be is the least of all, not the least that is open but for one. */
    private static void promise20_onTheRouteThatThereWouldBe() {
        RollingLoads x = Made.twoBridges();
        x.road(6, 7, 9, 0);
        x.road(6, 7, 8, 1);
        Due.due("the shorter one", x.why(0, 0, 6, 7), 11);
        x.road(7, 6, 7, 0);
        Due.due("a shorter one still", x.why(0, 0, 6, 7), 0);
        RollingLoads y = Made.twoBridges();
        y.road(6, 7, 9, 1);
        y.road(6, 7, 9, 0);
        Due.due("of like ones the first", y.why(0, 0, 6, 7), 11);
    }

    private static void promise20_theLastCheckOfTheLastBridgeIs54() {
        RollingLoads x = new RollingLoads();
        for (int b = 0; b < 6; b++) {
            x.bridge(8, Due.bits(0, 8), 0);
        }
        for (int c = 0; c < 5; c++) {
            x.check(5, 1, 4, c < 4 ? 130 : 129, 0);
        }
        x.train(50);
        x.road(8, 9, 500, 5);
        Due.due("54", x.why(0, 0, 9, 8), 54);
    }

    private static void promise20_inEachMode() {
        RollingLoads x = Made.twoBridges();
        x.limit(0, 0, 130, 0);
        x.usual(0);
        x.rule(0, 1, 2);
        Due.due("free", x.why(0, 0, 1, 3), 0);
        Due.due("escorted", x.why(0, 1, 1, 3), NONE);
        x.limit(0, 0, 100, 0);
        Due.due("escorted, with SHAKE", x.why(0, 1, 1, 3), 0);
        Due.due("crawling", x.why(0, 2, 1, 3), NONE);
        x.limit(0, 0, 99, 0);
        Due.due("not even crawling", x.why(0, 2, 1, 3), 0);
    }

    private static void promise20_modeBelow0OrAbove2IsOutside() {
        RollingLoads x = Made.twoBridges();
        Due.each("mode", mode -> x.why(0, mode, 0, 1), OUTSIDE, -1, 3, MIN, MAX);
    }

    private static void promise20_oneTownTwiceIsOutside() {
        RollingLoads x = Made.twoBridges();
        Due.each("town", town -> x.why(0, 0, town, town), OUTSIDE, 0, 1, 9);
    }

    private static void promise20_noSuchTrainOrTownIsUnknown() {
        RollingLoads x = Made.twoBridges();
        Due.each("train", t -> x.why(t, 0, 0, 1), UNKNOWN, NONE, 1, 8, MIN, MAX);
        Due.each("from", from -> x.why(0, 0, from, 1), UNKNOWN, -1, 10, MIN, MAX);
        Due.each("to", to -> x.why(0, 0, 0, to), UNKNOWN, -1, 10, MIN, MAX);
        Due.due("a town twice that there is not", x.why(0, 0, 10, 10), UNKNOWN);
    }

    private static void promise20_unknownIsAheadOfOutside() {
        RollingLoads x = Made.twoBridges();
        Due.due("train, mode", x.why(1, 3, 0, 1), UNKNOWN);
        Due.due("train, one town twice", x.why(1, 0, 0, 0), UNKNOWN);
        Due.due("from, mode", x.why(0, 3, 10, 1), UNKNOWN);
        Due.due("to, mode", x.why(0, 3, 0, 10), UNKNOWN);
    }

    public static void main(String[] args) {
        Cases.run(RoadsTest.class, Cases.parts("promise", 18, 20));
    }
}
