/** Promises 6 to 10: train, axle, axles, effect, worst. */
public final class TrainsTest {
    private static final int NONE = RollingLoads.NONE;
    private static final int UNKNOWN = RollingLoads.UNKNOWN;
    private static final int OUTSIDE = RollingLoads.OUTSIDE;
    private static final int FULL = RollingLoads.FULL;
    private static final int MIN = Integer.MIN_VALUE;
    private static final int MAX = Integer.MAX_VALUE;

    // ---- promise 6: train

    private static void promise6_weightFrom1To200() {
        RollingLoads x = new RollingLoads();
        Due.due("weight 1", x.train(1), 0);
        Due.due("weight 200", x.train(200), 1);
        Due.due("1 is kept", x.axles(0, 0, 0), 1);
        Due.due("200 is kept", x.axles(1, 0, 0), 200);
    }

    private static void promise6_weightBelow1OrAbove200IsOutside() {
        RollingLoads x = new RollingLoads();
        Due.each("weight", x::train, OUTSIDE, 0, -1, 201, 202, 256, MIN, MAX);
        Due.due("none came of it", x.count(1), 0);
    }

    private static void promise6_itHasOneAxle() {
        RollingLoads x = new RollingLoads();
        x.train(77);
        Due.due("one axle", x.axles(0, NONE, 0), 1);
        Due.due("its weight", x.axles(0, 0, 0), 77);
        Due.due("its gap", x.axles(0, 0, 1), 0);
        Due.due("all gaps", x.axles(0, NONE, 1), 0);
        Due.due("no second one", x.axles(0, 1, 0), NONE);
    }

    private static void promise6_theNinthIsFull() {
        RollingLoads x = new RollingLoads();
        for (int t = 0; t < 8; t++) {
            Due.due("train " + t, x.train(10 + t), t);
        }
        Due.due("the ninth", x.train(1), FULL);
        Due.due("the ninth again", x.train(200), FULL);
        Due.due("eight", x.count(1), 8);
        Due.due("the last is as it was", x.axles(7, 0, 0), 17);
        Due.due("there is no ninth", x.axles(8, 0, 0), UNKNOWN);
    }

    private static void promise6_outsideIsAheadOfFull() {
        RollingLoads x = new RollingLoads();
        for (int t = 0; t < 8; t++) {
            x.train(1);
        }
        Due.each("weight", x::train, OUTSIDE, 0, 201);
    }

    // ---- promise 7: axle

    private static void promise7_gapFrom1To20() {
        RollingLoads x = new RollingLoads();
        x.train(7);
        Due.due("gap 1", x.axle(0, 1, 5), 2);
        Due.due("gap 20", x.axle(0, 20, 5), 3);
        Due.due("1 is kept", x.axles(0, 1, 1), 1);
        Due.due("20 is kept", x.axles(0, 2, 1), 20);
    }

    private static void promise7_gapBelow1OrAbove20IsOutside() {
        RollingLoads x = new RollingLoads();
        x.train(7);
        Due.each("gap", gap -> x.axle(0, gap, 5), OUTSIDE, 0, -1, 21, 22, MIN, MAX);
        Due.due("still one axle", x.axles(0, NONE, 0), 1);
    }

    private static void promise7_weightFrom1To200() {
        RollingLoads x = new RollingLoads();
        x.train(7);
        Due.due("weight 1", x.axle(0, 3, 1), 2);
        Due.due("weight 200", x.axle(0, 3, 200), 3);
        Due.due("1 is kept", x.axles(0, 1, 0), 1);
        Due.due("200 is kept", x.axles(0, 2, 0), 200);
    }

    private static void promise7_weightBelow1OrAbove200IsOutside() {
        RollingLoads x = new RollingLoads();
        x.train(7);
        Due.each("weight", weight -> x.axle(0, 3, weight), OUTSIDE, 0, -1, 201, 202, MIN, MAX);
        Due.due("still one axle", x.axles(0, NONE, 0), 1);
    }

    private static void promise7_aTrainThatThereIsNotIsUnknown() {
        RollingLoads x = new RollingLoads();
        x.train(7);
        Due.each("train", t -> x.axle(t, 1, 1), UNKNOWN, NONE, 1, 8, MIN, MAX);
        Due.due("ahead of gap", x.axle(1, 0, 1), UNKNOWN);
        Due.due("ahead of weight", x.axle(1, 1, 201), UNKNOWN);
    }

    private static void promise7_theNinthAxleIsFull() {
        RollingLoads x = new RollingLoads();
        x.train(7);
        x.train(9);
        for (int n = 2; n <= 8; n++) {
            Due.due("axle " + n, x.axle(0, n, 10 * n), n);
        }
        Due.due("the ninth", x.axle(0, 20, 200), FULL);
        Due.due("the ninth again", x.axle(0, 1, 1), FULL);
        Due.due("eight", x.axles(0, NONE, 0), 8);
        Due.due("all gaps", x.axles(0, NONE, 1), 2 + 3 + 4 + 5 + 6 + 7 + 8);
        Due.due("the last is as it was", x.axles(0, 7, 0), 80);
        Due.due("the other train has room", x.axle(1, 20, 200), 2);
    }

    private static void promise7_refusalsInTheirOrderOnAFullTrain() {
        RollingLoads x = Made.full();
        Due.due("OUTSIDE of gap is ahead of FULL", x.axle(7, 0, 1), OUTSIDE);
        Due.due("OUTSIDE of weight is ahead of FULL", x.axle(7, 1, 201), OUTSIDE);
        Due.due("UNKNOWN is ahead of all", x.axle(8, 0, 1), UNKNOWN);
        Due.due("FULL comes last", x.axle(7, 1, 1), FULL);
    }

    // ---- promise 8: axles

    private static RollingLoads eightAxles() {
        RollingLoads x = new RollingLoads();
        Made.train(x, 10, 20, 11, 20, 12, 20, 13, 20, 14, 20, 15, 20, 16, 20, 17);
        Made.train(x, 50);
        return x;
    }

    private static void promise8_eachAxleAndAllOfThem() {
        RollingLoads x = eightAxles();
        for (int k = 0; k < 8; k++) {
            Due.due("weight of " + k, x.axles(0, k, 0), 10 + k);
            Due.due("gap of " + k, x.axles(0, k, 1), k == 0 ? 0 : 20);
        }
        Due.due("how many", x.axles(0, NONE, 0), 8);
        Due.due("all gaps", x.axles(0, NONE, 1), 140);
        Due.due("how many of one", x.axles(1, NONE, 0), 1);
        Due.due("all gaps of one", x.axles(1, NONE, 1), 0);
    }

    private static void promise8_noneWhereThereIsNoSuchAxle() {
        RollingLoads x = eightAxles();
        for (int what = 0; what < 2; what++) {
            int of = what;
            Due.each("axle of eight", k -> x.axles(0, k, of), NONE, -2, -3, 8, 9, MIN, MAX);
            Due.each("axle of one", k -> x.axles(1, k, of), NONE, -2, 1, 2, 7, 8, MIN, MAX);
        }
    }

    private static void promise8_aTrainThatThereIsNotIsUnknown() {
        RollingLoads x = eightAxles();
        Due.each("train", t -> x.axles(t, 0, 0), UNKNOWN, NONE, 2, 8, MIN, MAX);
        Due.due("ahead of what", x.axles(2, 0, 2), UNKNOWN);
        Due.due("ahead of NONE", x.axles(2, 8, 0), UNKNOWN);
    }

    private static void promise8_whatBelow0OrAbove1IsOutside() {
        RollingLoads x = eightAxles();
        Due.each("what", what -> x.axles(0, 0, what), OUTSIDE, -1, 2, 3, MIN, MAX);
        Due.each("what of all", what -> x.axles(0, NONE, what), OUTSIDE, -1, 2, 3, MIN, MAX);
        Due.each("what of no axle", what -> x.axles(0, 8, what), OUTSIDE, -1, 2, 3, MIN, MAX);
    }

    // ---- promise 9: effect

    private static void effect(RollingLoads x, int kind, int at, int way, int time, long upper, long lower) {
        Due.fraction("effect " + kind + " " + at + " way " + way + " time " + time,
                x.effect(0, kind, at, 0, way, time, 0), x.effect(0, kind, at, 0, way, time, 1), upper, lower);
    }

    private static void promise9_wayNoughtFromItsFirstToItsLastTime() {
        RollingLoads x = Made.threeAxles();
        effect(x, 0, 1, 0, 0, 0, 1);
        effect(x, 0, 0, 0, 0, 10, 1);
        effect(x, 0, 1, 0, 3, 5, 1);
        effect(x, 0, 1, 0, 8, 23, 1);
        effect(x, 0, 1, 0, 10, 35, 1);
        effect(x, 0, 1, 0, 11, 30, 1);
        effect(x, 0, 1, 0, 17, 30, 1);
        effect(x, 1, 3, 0, 4, 46, 1);
    }

    private static void promise9_wayOneFromItsFirstToItsLastTime() {
        RollingLoads x = Made.threeAxles();
        effect(x, 0, 1, 1, 0, 0, 1);
        effect(x, 0, 0, 1, 0, 30, 1);
        effect(x, 0, 1, 1, 6, 20, 1);
        effect(x, 0, 1, 1, 7, 25, 1);
        effect(x, 0, 1, 1, 17, 10, 1);
    }

    private static void promise9_timeBelow0OrAfterTheLastIsOutside() {
        RollingLoads x = Made.threeAxles();
        for (int way = 0; way < 2; way++) {
            int by = way;
            Due.each("time", time -> x.effect(0, 0, 0, 0, by, time, 0), OUTSIDE, -1, 18, 19, MIN, MAX);
        }
        x.train(5);
        Due.due("LENGTH is the last time of one axle", x.effect(0, 0, 1, 1, 0, 10, 0), 5);
        Due.each("time of one axle", time -> x.effect(0, 0, 1, 1, 0, time, 0), OUTSIDE, -1, 11, 17);
    }

    private static void promise9_theLongestRollEndsAt200() {
        RollingLoads x = Made.beam(60);
        Made.train(x, 1, 20, 2, 20, 3, 20, 4, 20, 5, 20, 6, 20, 7, 20, 8);
        Due.due("the last axle at LENGTH", x.effect(0, 0, 1, 0, 0, 200, 0), 8);
        Due.due("the first axle at LENGTH, by way 1", x.effect(0, 0, 1, 0, 1, 200, 0), 1);
        Due.due("time 201", x.effect(0, 0, 1, 0, 0, 201, 0), OUTSIDE);
        Due.due("time 201 by way 1", x.effect(0, 0, 1, 0, 1, 201, 0), OUTSIDE);
    }

    private static void promise9_wayBelow0OrAbove1IsOutside() {
        RollingLoads x = Made.threeAxles();
        Due.each("way", way -> x.effect(0, 0, 0, 0, way, 0, 0), OUTSIDE, -1, 2, MIN, MAX);
    }

    private static void promise9_whatBelow0OrAbove1IsOutside() {
        RollingLoads x = Made.threeAxles();
        Due.each("what", what -> x.effect(0, 0, 0, 0, 0, 0, what), OUTSIDE, -1, 2, MIN, MAX);
    }

    private static void promise9_noSuchResponse() {
        RollingLoads x = Made.threeAxles();
        Due.each("kind", kind -> x.effect(0, kind, 0, 0, 0, 0, 0), OUTSIDE, -1, 2, MIN, MAX);
        Due.each("place", at -> x.effect(0, 1, at, 0, 0, 0, 0), OUTSIDE, -1, 11, MIN, MAX);
        Due.each("support", at -> x.effect(0, 0, at, 0, 0, 0, 0), UNKNOWN, -1, 2, MIN, MAX);
    }

    private static void promise9_noSuchBridgeOrTrainIsUnknown() {
        RollingLoads x = Made.threeAxles();
        Due.each("bridge", b -> x.effect(b, 1, 0, 0, 0, 0, 0), UNKNOWN, -1, 1, 6, MIN, MAX);
        Due.each("train", t -> x.effect(0, 1, 0, t, 0, 0, 0), UNKNOWN, NONE, 1, 8, MIN, MAX);
    }

    private static void promise9_unknownIsAheadOfOutside() {
        RollingLoads x = Made.threeAxles();
        Due.due("bridge, time", x.effect(1, 0, 0, 0, 0, 99, 0), UNKNOWN);
        Due.due("support, way", x.effect(0, 0, 2, 0, 9, 0, 0), UNKNOWN);
        Due.due("support, what", x.effect(0, 0, 2, 0, 0, 0, 9), UNKNOWN);
        Due.due("train, kind", x.effect(0, 2, 0, 1, 0, 0, 0), UNKNOWN);
        Due.due("train, place", x.effect(0, 1, 11, 1, 0, 0, 0), UNKNOWN);
        Due.due("train, time", x.effect(0, 0, 0, 1, 0, 99, 0), UNKNOWN);
    }

    // ---- promise 10: worst

    private static void worst(RollingLoads x, int b, int kind, int at, int t, int end, long... want) {
        for (int what = 0; what < 4; what++) {
            Due.due("worst " + b + " " + kind + " " + at + " " + t + " end " + end + " what " + what,
                    x.worst(b, kind, at, t, end, what), want[what]);
        }
    }

    private static void promise10_greatestAndLeastWithWayAndTime() {
        RollingLoads x = Made.threeAxles();
        worst(x, 0, 0, 0, 0, 0, 43, 1, 0, 7);
        worst(x, 0, 0, 0, 0, 1, 0, 1, 0, 17);
        worst(x, 0, 0, 1, 0, 0, 43, 1, 1, 10);
        worst(x, 0, 0, 1, 0, 1, 0, 1, 0, 0);
        x.bridge(10, Due.bits(2, 5), 0);
        worst(x, 1, 0, 0, 0, 1, -50, 1, 0, 17);
        worst(x, 1, 0, 0, 0, 0, 50, 1, 1, 0);
    }

    private static void promise10_ofOneAxleWay0IsTold() {
        RollingLoads x = Made.beam(10);
        x.train(9);
        worst(x, 0, 1, 4, 0, 0, 108, 5, 0, 4);
        worst(x, 0, 1, 4, 0, 1, 0, 1, 0, 0);
    }

    private static void promise10_whereAllIsNoughtTheFirstTimeIsTold() {
        RollingLoads x = Made.threeAxles();
        for (int end = 0; end < 2; end++) {
            worst(x, 0, 1, 0, 0, end, 0, 1, 0, 0);
            worst(x, 0, 1, 10, 0, end, 0, 1, 0, 0);
        }
    }

    /** Way 1 is told only if it is truly beyond way 0. */
    private static void promise10_ofLikeEffectsWay0IsAheadThenTheLeastTime() {
        RollingLoads x = Made.beam(12);
        Made.train(x, 10, 4, 10);
        Made.train(x, 10, 4, 30);
        worst(x, 0, 1, 6, 0, 0, 40, 1, 0, 6);
        worst(x, 0, 1, 3, 1, 0, 80, 1, 0, 7);
        worst(x, 0, 1, 9, 1, 0, 80, 1, 1, 9);
        // The other end: the support at 4 is lifted most by an axle at 12, and the other at 8 lifts nothing.
        x.bridge(12, Due.bits(4, 8), 0);
        worst(x, 1, 0, 0, 0, 1, -10, 1, 0, 12);
    }

    /** Two supports, at 5 and 7: axles 3 apart are never above 0 for the moment between them. */
    private static RollingLoads belowAndAbove() {
        RollingLoads x = new RollingLoads();
        x.bridge(12, Due.bits(5, 7), 0);
        x.bridge(16, Due.bits(5, 7, 9), Due.bits(8));
        Made.train(x, 8, 3, 8);
        Made.train(x, 1, 3, 1);
        x.train(8);
        return x;
    }

    private static void promise10_greatestIsNoughtWithoutWayIfAllAreBelow() {
        RollingLoads x = belowAndAbove();
        worst(x, 0, 1, 6, 0, 0, 0, 1, NONE, NONE);
        worst(x, 0, 1, 6, 0, 1, -28, 1, 0, 3);
        worst(x, 0, 1, 6, 1, 0, 0, 1, NONE, NONE);
    }

    private static void promise10_leastIsNoughtWithoutWayIfAllAreAbove() {
        RollingLoads x = belowAndAbove();
        worst(x, 1, 0, 0, 0, 1, 0, 1, NONE, NONE);
        worst(x, 1, 0, 0, 0, 0, 44, 1, 0, 3);
        worst(x, 1, 0, 0, 1, 1, 0, 1, NONE, NONE);
    }

    private static void promise10_noughtThatIsReachedHasAWayAndATime() {
        RollingLoads x = belowAndAbove();
        // One axle alone stands at 5, 6 and 7 too, or at 8: none of both ends is 0 for want of any.
        worst(x, 0, 1, 6, 2, 0, 4, 1, 0, 6);
        worst(x, 1, 0, 0, 2, 1, -4, 1, 0, 8);
        // At 5 of 5 and 7 nothing is above 0, but it comes to 0, first at TIME 5.
        worst(x, 0, 1, 5, 2, 0, 0, 1, 0, 5);
        x.bridge(4, Due.bits(0, 4), 0);
        worst(x, 2, 0, 0, 2, 1, 0, 1, 0, 4);
        worst(x, 2, 0, 1, 2, 1, 0, 1, 0, 0);
    }

    private static void promise10_endBelow0OrAbove1IsOutside() {
        RollingLoads x = Made.threeAxles();
        Due.each("end", end -> x.worst(0, 0, 0, 0, end, 0), OUTSIDE, -1, 2, MIN, MAX);
    }

    private static void promise10_whatBelow0OrAbove3IsOutside() {
        RollingLoads x = Made.threeAxles();
        Due.each("what", what -> x.worst(0, 0, 0, 0, 0, what), OUTSIDE, -1, 4, 5, MIN, MAX);
    }

    private static void promise10_noSuchResponse() {
        RollingLoads x = Made.threeAxles();
        Due.each("kind", kind -> x.worst(0, kind, 0, 0, 0, 0), OUTSIDE, -1, 2, MIN, MAX);
        Due.each("place", at -> x.worst(0, 1, at, 0, 0, 0), OUTSIDE, -1, 11, MIN, MAX);
        Due.each("support", at -> x.worst(0, 0, at, 0, 0, 0), UNKNOWN, -1, 2, MIN, MAX);
    }

    private static void promise10_noSuchBridgeOrTrainIsUnknown() {
        RollingLoads x = Made.threeAxles();
        Due.each("bridge", b -> x.worst(b, 1, 0, 0, 0, 0), UNKNOWN, -1, 1, 6, MIN, MAX);
        Due.each("train", t -> x.worst(0, 1, 0, t, 0, 0), UNKNOWN, NONE, 1, 8, MIN, MAX);
    }

    private static void promise10_unknownIsAheadOfOutside() {
        RollingLoads x = Made.threeAxles();
        Due.due("bridge, end", x.worst(1, 0, 0, 0, 2, 0), UNKNOWN);
        Due.due("support, what", x.worst(0, 0, 2, 0, 0, 4), UNKNOWN);
        Due.due("train, kind", x.worst(0, 2, 0, 1, 0, 0), UNKNOWN);
        Due.due("train, place", x.worst(0, 1, 11, 1, 0, 0), UNKNOWN);
    }

    public static void main(String[] args) {
        Cases.run(TrainsTest.class, Cases.parts("promise", 6, 10));
    }
}
