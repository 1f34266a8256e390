/** Promises 1 to 5: a new object, bridge, told, influence, rule. */
public final class BridgesTest {
    private static final int NONE = RollingLoads.NONE;
    private static final int UNKNOWN = RollingLoads.UNKNOWN;
    private static final int OUTSIDE = RollingLoads.OUTSIDE;
    private static final int NOT = RollingLoads.NOT;
    private static final int FULL = RollingLoads.FULL;
    private static final int MIN = Integer.MIN_VALUE;
    private static final int MAX = Integer.MAX_VALUE;

    private static long bits(int... places) {
        return Due.bits(places);
    }

    // ---- promise 1: a new object

    private static void promise1_countsAreNoughtAndThereIsNoUsualTrain() {
        RollingLoads x = new RollingLoads();
        int[] want = {0, 0, 0, 0, NONE, 0};
        for (int what = 0; what < want.length; what++) {
            Due.due("count(" + what + ")", x.count(what), want[what]);
        }
        Due.due("usual", x.usual(NONE), NONE);
    }

    private static void promise1_thereIsNoBridge() {
        RollingLoads x = new RollingLoads();
        x.train(10);
        Due.due("told", x.told(0, 0), UNKNOWN);
        Due.due("influence", x.influence(0, 0, 0, 0, 0), UNKNOWN);
        Due.due("influence of a moment", x.influence(0, 1, 0, 0, 0), UNKNOWN);
        Due.due("rule", x.rule(0, 0, 0), UNKNOWN);
        Due.due("effect", x.effect(0, 1, 0, 0, 0, 0, 0), UNKNOWN);
        Due.due("worst", x.worst(0, 1, 0, 0, 0, 0), UNKNOWN);
        Due.due("check", x.check(0, 1, 0, 0, 0), UNKNOWN);
        Due.due("limit", x.limit(0, 0, 0, 0), UNKNOWN);
        Due.due("total", x.total(0, 0, 0, 0, 0, 0), UNKNOWN);
        Due.due("fails", x.fails(0, 0, 0), UNKNOWN);
        Due.due("posted", x.posted(0, 0), UNKNOWN);
        Due.due("spread", x.spread(0, 0, 0), UNKNOWN);
        Due.due("road", x.road(0, 1, 1, 0), UNKNOWN);
        Due.due("wear", x.wear(0, 1, 0, 0, 0), UNKNOWN);
        Due.due("worn", x.worn(0, 1, 0), UNKNOWN);
    }

    private static void promise1_thereIsNoTrain() {
        RollingLoads x = Made.beam(10);
        x.check(0, 1, 5, 0, 0);
        x.road(0, 1, 1, NONE);
        Due.due("axle", x.axle(0, 1, 1), UNKNOWN);
        Due.due("axles", x.axles(0, 0, 0), UNKNOWN);
        Due.due("axles of all", x.axles(0, NONE, 0), UNKNOWN);
        Due.due("effect", x.effect(0, 1, 0, 0, 0, 0, 0), UNKNOWN);
        Due.due("worst", x.worst(0, 1, 0, 0, 0, 0), UNKNOWN);
        Due.due("usual", x.usual(0), UNKNOWN);
        Due.due("total", x.total(0, 0, 0, 0, 0, 0), UNKNOWN);
        Due.due("fails", x.fails(0, 0, 0), UNKNOWN);
        Due.due("posted", x.posted(0, 0), UNKNOWN);
        Due.due("spread", x.spread(0, 0, 0), UNKNOWN);
        Due.due("route", x.route(0, 0, 0, 1, 0), UNKNOWN);
        Due.due("why", x.why(0, 0, 0, 1), UNKNOWN);
        Due.due("wear", x.wear(0, 1, 0, 0, 0), UNKNOWN);
        Due.due("traffic", x.traffic(0, 0), UNKNOWN);
        Due.due("nothing is worn", x.worn(0, 1, 5), 0);
    }

    private static void promise1_thereIsNoRoad() {
        RollingLoads x = new RollingLoads();
        x.train(10);
        for (int what = 0; what < 12; what++) {
            Due.due("route what " + what, x.route(0, 0, 0, 1, what), NONE);
        }
        Due.due("why", x.why(0, 0, 0, 1), NONE);
    }

    private static void promise1_bridgesAndTrainsAreAsAtFirst() {
        RollingLoads x = Made.beam(10);
        x.train(10);
        Due.due("no checks", x.told(0, 3), 0);
        Due.due("SHAKE", x.told(0, 4), 30);
        Due.due("LANES", x.told(0, 5), 1);
        Due.due("SHARE", x.told(0, 6), 50);
        Due.due("TRAFFIC", x.traffic(0, 0), 0);
        Due.due("limit of no check", x.limit(0, 0, 0, 0), UNKNOWN);
        Due.due("total of no check", x.total(0, 0, 0, 0, 0, 0), UNKNOWN);
        Due.due("no check fails", x.fails(0, 0, 0), NONE);
        Due.due("posted without checks", x.posted(0, 0), 300);
        Due.due("spread without checks", x.spread(0, 0, 0), 0);
    }

    private static void promise1_objectsAreApart() {
        RollingLoads x = Made.some();
        RollingLoads y = new RollingLoads();
        Due.due("no bridge", y.count(0), 0);
        Due.due("no train", y.count(1), 0);
        Due.due("no road", y.count(2), 0);
        Due.due("no check", y.count(3), 0);
        Due.due("no usual train", y.count(4), NONE);
        Due.due("no traffic", y.count(5), 0);
        y.bridge(20, bits(0, 20), 0);
        y.rule(0, 0, 1);
        Due.due("the first one has its own rules", x.told(0, 4), 30);
        Due.due("the first one has its own bridges", x.told(0, 0), 8);
    }

    // ---- promise 2: bridge

    private static void promise2_lengthBelow2IsOutside() {
        RollingLoads x = new RollingLoads();
        Due.each("length", length -> x.bridge(length, 3, 0), OUTSIDE, 1, 0, -1, -2, -62, MIN);
        Due.due("length 1 with its one place", x.bridge(1, 1, 0), OUTSIDE);
        Due.due("none came of it", x.count(0), 0);
    }

    private static void promise2_length2IsTheShortest() {
        RollingLoads x = new RollingLoads();
        Due.due("supports at 0 and 2", x.bridge(2, bits(0, 2), 0), 0);
        Due.due("supports at 0 and 1", x.bridge(2, bits(0, 1), 0), 1);
        Due.due("supports at 1 and 2", x.bridge(2, bits(1, 2), 0), 2);
        Due.due("LENGTH", x.told(0, 0), 2);
        Due.due("all places are supports, and none is left for the hinge",
                x.bridge(2, bits(0, 1, 2), bits(1)), OUTSIDE);
    }

    private static void promise2_length60IsTheLongest() {
        RollingLoads x = new RollingLoads();
        Due.due("supports at 0 and 60", x.bridge(60, bits(0, 60), 0), 0);
        Due.due("five of them", x.bridge(60, bits(0, 15, 30, 45, 60), bits(14, 29, 46)), 1);
        Due.due("LENGTH", x.told(0, 0), 60);
        Due.due("INFLUENCE at its end", x.influence(0, 0, 1, 60, 0), 1);
    }

    private static void promise2_lengthAbove60IsOutside() {
        RollingLoads x = new RollingLoads();
        Due.each("length", length -> x.bridge(length, 3, 0), OUTSIDE, 61, 62, 63, 64, 65, 66, 124, MAX);
        Due.due("61 with supports at its ends", x.bridge(61, bits(0, 61), 0), OUTSIDE);
        Due.due("63 with supports at its ends", x.bridge(63, bits(0, 63), 0), OUTSIDE);
        Due.due("none came of it", x.count(0), 0);
    }

    private static void promise2_fewerThan2SupportsAreOutside() {
        RollingLoads x = new RollingLoads();
        Due.due("none", x.bridge(10, 0, 0), OUTSIDE);
        Due.due("none, and a hinge", x.bridge(10, 0, bits(5)), OUTSIDE);
        Due.due("one", x.bridge(10, bits(0), 0), OUTSIDE);
        Due.due("one at the end", x.bridge(10, bits(10), 0), OUTSIDE);
        Due.due("one, and a hinge", x.bridge(10, bits(3), bits(5)), OUTSIDE);
    }

    private static void promise2_2To5SupportsAreInside() {
        RollingLoads x = new RollingLoads();
        Due.due("two", x.bridge(20, bits(0, 20), 0), 0);
        Due.due("three", x.bridge(20, bits(0, 9, 20), bits(4)), 1);
        Due.due("four", x.bridge(20, bits(0, 6, 14, 20), bits(8, 12)), 2);
        Due.due("five", x.bridge(20, bits(0, 5, 10, 15, 20), bits(7, 12, 17)), 3);
        for (int b = 0; b < 4; b++) {
            Due.due("supports of bridge " + b, x.told(b, 1), b + 2);
            Due.due("hinges of bridge " + b, x.told(b, 2), b);
        }
    }

    private static void promise2_moreThan5SupportsAreOutside() {
        RollingLoads x = new RollingLoads();
        Due.due("six", x.bridge(20, bits(0, 4, 8, 12, 16, 20), bits(2, 6, 10, 14)), OUTSIDE);
        Due.due("six and three hinges", x.bridge(20, bits(0, 4, 8, 12, 16, 20), bits(2, 6, 10)), OUTSIDE);
        Due.due("seven", x.bridge(30, bits(0, 4, 8, 12, 16, 20, 24), bits(2, 6, 10, 14, 18)), OUTSIDE);
        Due.due("everywhere", x.bridge(60, -1L >>> 3, 0), OUTSIDE);
    }

    private static void promise2_supportsReachFrom0ToLength() {
        RollingLoads x = new RollingLoads();
        Due.due("at 0 and LENGTH", x.bridge(10, bits(0, 10), 0), 0);
        Due.due("at LENGTH less 1 and LENGTH", x.bridge(10, bits(9, 10), 0), 1);
        Due.due("at neither end", x.bridge(10, bits(4, 5), 0), 2);
    }

    private static void promise2_supportsAboveLengthAreOutside() {
        RollingLoads x = new RollingLoads();
        Due.each("a support too far, at", p -> x.bridge(10, bits(0, p), 0), OUTSIDE, 11, 12, 31, 32, 42, 60, 62, 63);
        Due.each("one more, too far, at", p -> x.bridge(10, bits(0, 10, p), bits(4)), OUTSIDE, 11, 32, 63);
        Due.each("too far for the longest, at", p -> x.bridge(60, bits(0, p), 0), OUTSIDE, 61, 62, 63);
        Due.due("all bits", x.bridge(60, -1L, 0), OUTSIDE);
        Due.due("the least long", x.bridge(60, Long.MIN_VALUE, 0), OUTSIDE);
    }

    private static void promise2_hingesAreAsManyAsSupportsLess2() {
        RollingLoads x = new RollingLoads();
        long[] supports = {bits(0, 20), bits(0, 9, 20), bits(0, 6, 14, 20), bits(0, 5, 10, 15, 20)};
        long[] hinges = {0, bits(4), bits(8, 12), bits(7, 12, 17)};
        for (int n = 0; n < 4; n++) {
            Due.due(n + 2 + " supports, a hinge too many", x.bridge(20, supports[n], hinges[n] | bits(1)), OUTSIDE);
            Due.due(n + 2 + " supports, two too many", x.bridge(20, supports[n], hinges[n] | bits(1, 2)), OUTSIDE);
            if (n > 0) {
                long fewer = hinges[n] & hinges[n] - 1;
                Due.due(n + 2 + " supports, a hinge too few", x.bridge(20, supports[n], fewer), OUTSIDE);
                Due.due(n + 2 + " supports, no hinge", x.bridge(20, supports[n], 0), OUTSIDE);
            }
            Due.due(n + 2 + " supports, as many as told", x.bridge(20, supports[n], hinges[n]), n);
        }
    }

    private static void promise2_hingesReachFrom1ToLengthLess1() {
        RollingLoads x = new RollingLoads();
        Due.due("at 1", x.bridge(10, bits(0, 5, 10), bits(1)), 0);
        Due.due("at LENGTH less 1", x.bridge(10, bits(0, 5, 10), bits(9)), 1);
        Due.due("at 59 of 60", x.bridge(60, bits(0, 5, 60), bits(59)), 2);
        Due.each("at", h -> x.bridge(10, bits(1, 5, 9), bits(h)), OUTSIDE, 0, 10, 11, 12, 32, 33, 62, 63);
        Due.each("of 60 at", h -> x.bridge(60, bits(1, 5, 9), bits(h)), OUTSIDE, 0, 60, 61, 62, 63);
        Due.due("at all bits", x.bridge(60, bits(0, 5, 9), -1L), OUTSIDE);
    }

    private static void promise2_hingesOnASupportAreOutside() {
        RollingLoads x = new RollingLoads();
        Due.due("on the inner one", x.bridge(10, bits(0, 5, 10), bits(5)), OUTSIDE);
        Due.due("on the first one", x.bridge(10, bits(1, 5, 10), bits(1)), OUTSIDE);
        Due.due("on the last one", x.bridge(10, bits(0, 5, 9), bits(9)), OUTSIDE);
        Due.due("one of two", x.bridge(20, bits(0, 5, 15, 20), bits(8, 15)), OUTSIDE);
        Due.due("beside it", x.bridge(10, bits(0, 5, 10), bits(4)), 0);
    }

    private static void promise2_looseOnesAreNone() {
        RollingLoads x = new RollingLoads();
        Due.due("all supports left of the hinge", x.bridge(10, bits(0, 2, 4), bits(6)), NOT);
        Due.due("all supports right of the hinge", x.bridge(10, bits(6, 8, 10), bits(3)), NOT);
        Due.due("2, 2, 0", x.bridge(20, bits(0, 3, 6, 9), bits(5, 12)), NOT);
        Due.due("1, 0, 3", x.bridge(20, bits(0, 12, 15, 20), bits(5, 9)), NOT);
        Due.due("3, 0, 1", x.bridge(20, bits(0, 2, 4, 20), bits(8, 12)), NOT);
        Due.due("1, 3, 1, 0", x.bridge(40, bits(0, 12, 15, 18, 32), bits(10, 20, 35)), NOT);
        Due.due("0, 3, 1", x.bridge(20, bits(2, 9, 12, 20), bits(1, 15)), NOT);
        Due.due("loose ones are none", x.count(0), 0);
        Due.due("so the next is the first", x.bridge(10, bits(0, 10), 0), 0);
    }

    private static void promise2_boundOnesAreBridges() {
        RollingLoads x = new RollingLoads();
        Due.due("1, 2", x.bridge(10, bits(0, 5, 10), bits(3)), 0);
        Due.due("2, 1", x.bridge(10, bits(0, 5, 10), bits(7)), 1);
        Due.due("2, 0, 2", x.bridge(20, bits(0, 5, 15, 20), bits(8, 12)), 2);
        Due.due("2, 1, 1", x.bridge(20, bits(0, 5, 10, 15), bits(7, 12)), 3);
        Due.due("1, 2, 1, 1", x.bridge(60, bits(0, 10, 20, 40, 60), bits(5, 30, 50)), 4);
    }

    /**
     * A beam that bends at hinges alone is held by its supports if and only if support i stands left of
     * hinge i and right of hinge i less 2, where there are such (Schoenberg and Whitney).
     */
    private static boolean isHeld(long supports, long hinges) {
        int n = Long.bitCount(supports);
        for (int i = 0; i < n; i++) {
            int p = placeOf(supports, i);
            if (i < n - 2 && p > placeOf(hinges, i) || i >= 2 && p < placeOf(hinges, i - 2)) {
                return false;
            }
        }
        return true;
    }

    private static int placeOf(long bits, int i) {
        long rest = bits;
        for (int k = 0; k < i; k++) {
            rest &= rest - 1;
        }
        return Long.numberOfTrailingZeros(rest);
    }

    private static void promise2_everyBridgeUpToLength9() {
        for (int length = 2; length <= 9; length++) {
            for (long supports = 0; supports < 1L << length + 1; supports++) {
                int n = Long.bitCount(supports);
                for (long hinges = 0; n >= 2 && n <= 5 && hinges < 1L << length; hinges += 2) {
                    boolean inside = (hinges & supports) == 0 && Long.bitCount(hinges) == n - 2;
                    int want = !inside ? OUTSIDE : isHeld(supports, hinges) ? 0 : NOT;
                    Due.due("bridge(" + length + ", " + supports + ", " + hinges + ")",
                            new RollingLoads().bridge(length, supports, hinges), want);
                }
            }
        }
    }

    private static void promise2_theSeventhIsFull() {
        RollingLoads x = new RollingLoads();
        for (int b = 0; b < 6; b++) {
            Due.due("bridge " + b, x.bridge(10 + b, bits(0, 10 + b), 0), b);
        }
        Due.due("the seventh", x.bridge(10, bits(0, 10), 0), FULL);
        Due.due("the seventh again", x.bridge(60, bits(0, 60), 0), FULL);
        Due.due("six", x.count(0), 6);
        Due.due("the last is as it was", x.told(5, 0), 15);
        Due.due("there is no seventh", x.told(6, 0), UNKNOWN);
    }

    private static void promise2_refusalsInTheirOrder() {
        RollingLoads x = new RollingLoads();
        Due.due("OUTSIDE is ahead of NOT: length", x.bridge(61, bits(0, 2, 4), bits(6)), OUTSIDE);
        Due.due("OUTSIDE is ahead of NOT: bits above", x.bridge(10, bits(0, 2, 4), bits(6, 20)), OUTSIDE);
        for (int b = 0; b < 6; b++) {
            x.bridge(10, bits(0, 10), 0);
        }
        Due.due("NOT is ahead of FULL", x.bridge(10, bits(0, 2, 4), bits(6)), NOT);
        Due.due("OUTSIDE is ahead of FULL", x.bridge(10, bits(0), 0), OUTSIDE);
        Due.due("OUTSIDE is ahead of both", x.bridge(1, bits(0, 2, 4), bits(6)), OUTSIDE);
        Due.due("FULL comes last", x.bridge(10, bits(0, 10), 0), FULL);
    }

    // ---- promise 3: told

    private static void promise3_everythingThatIsTold() {
        RollingLoads x = Made.beam(10);
        x.bridge(60, bits(0, 10, 20, 40, 60), bits(5, 30, 50));
        x.check(1, 0, 0, 1, 0);
        x.check(1, 0, 1, 1, 0);
        x.rule(1, 0, 5);
        x.rule(1, 1, 3);
        x.rule(1, 2, 99);
        int[] first = {10, 2, 0, 0, 30, 1, 50};
        int[] second = {60, 5, 3, 2, 5, 3, 99};
        for (int what = 0; what < 7; what++) {
            Due.due("told(0, " + what + ")", x.told(0, what), first[what]);
            Due.due("told(1, " + what + ")", x.told(1, what), second[what]);
        }
    }

    private static void promise3_aBridgeThatThereIsNotIsUnknown() {
        RollingLoads x = Made.beam(10);
        Due.each("bridge", b -> x.told(b, 0), UNKNOWN, -1, 1, 5, 6, MIN, MAX);
        Due.due("the last one is", x.told(0, 0), 10);
    }

    private static void promise3_whatBelow0OrAbove6IsOutside() {
        RollingLoads x = Made.beam(10);
        Due.each("what", what -> x.told(0, what), OUTSIDE, -1, 7, 8, MIN, MAX);
        Due.due("what 0 is inside", x.told(0, 0), 10);
        Due.due("what 6 is inside", x.told(0, 6), 50);
    }

    private static void promise3_unknownIsAheadOfOutside() {
        RollingLoads x = Made.beam(10);
        Due.due("bridge 1, what 7", x.told(1, 7), UNKNOWN);
        Due.due("bridge -1, what -1", x.told(-1, -1), UNKNOWN);
    }

    private static void promise3_aFullTableOfChecks() {
        RollingLoads x = Made.beam(10);
        for (int c = 0; c < 6; c++) {
            x.check(0, 1, 5, 1, 0);
        }
        Due.due("five, not six", x.told(0, 3), 5);
    }

    // ---- promise 4: influence

    private static void influence(RollingLoads x, int kind, int at, int a, long upper, long lower) {
        Due.fraction("influence " + kind + " " + at + " " + a,
                x.influence(0, kind, at, a, 0), x.influence(0, kind, at, a, 1), upper, lower);
    }

    /** Supports at 2 and 8 of 10, with ends that reach out on both sides. */
    private static RollingLoads withArms() {
        RollingLoads x = new RollingLoads();
        x.bridge(10, bits(2, 8), 0);
        return x;
    }

    private static void promise4_reactionsOfABeamWithArms() {
        RollingLoads x = withArms();
        influence(x, 0, 0, 0, 4, 3);
        influence(x, 0, 1, 0, -1, 3);
        influence(x, 0, 0, 2, 1, 1);
        influence(x, 0, 1, 2, 0, 1);
        influence(x, 0, 0, 5, 1, 2);
        influence(x, 0, 1, 5, 1, 2);
        influence(x, 0, 0, 10, -1, 3);
        influence(x, 0, 1, 10, 4, 3);
    }

    private static void promise4_momentsOfABeamWithArms() {
        RollingLoads x = withArms();
        influence(x, 1, 2, 0, -2, 1);
        influence(x, 1, 5, 5, 3, 2);
        influence(x, 1, 5, 0, -1, 1);
        influence(x, 1, 1, 0, -1, 1);
        influence(x, 1, 1, 1, 0, 1);
        influence(x, 1, 8, 10, -2, 1);
        influence(x, 1, 9, 10, -1, 1);
    }

    private static void promise4_momentsAtTheEndsAreNought() {
        RollingLoads x = withArms();
        for (int a = 0; a <= 10; a++) {
            influence(x, 1, 0, a, 0, 1);
            influence(x, 1, 10, a, 0, 1);
        }
    }

    private static void promise4_aBeamThatHangsBetweenTwoHinges() {
        RollingLoads x = new RollingLoads();
        Due.due("2, 0, 2", x.bridge(20, bits(0, 4, 14, 20), bits(7, 12)), 0);
        influence(x, 0, 0, 9, -9, 20);
        influence(x, 0, 1, 9, 21, 20);
        influence(x, 0, 2, 9, 8, 15);
        influence(x, 0, 3, 9, -2, 15);
        for (int a = 0; a <= 20; a++) {
            influence(x, 1, 7, a, 0, 1);
            influence(x, 1, 12, a, 0, 1);
            influence(x, 1, 20, a, 0, 1);
        }
        influence(x, 1, 9, 9, 6, 5);
    }

    private static void promise4_aBridgeThatThereIsNotIsUnknown() {
        RollingLoads x = withArms();
        Due.each("bridge", b -> x.influence(b, 0, 0, 0, 0), UNKNOWN, -1, 1, 6, MIN, MAX);
        Due.each("bridge, for a moment,", b -> x.influence(b, 1, 0, 0, 0), UNKNOWN, -1, 1, 6, MIN, MAX);
    }

    private static void promise4_aSupportThatThereIsNotIsUnknown() {
        RollingLoads x = withArms();
        Due.each("support", at -> x.influence(0, 0, at, 0, 0), UNKNOWN, -1, 2, 8, 10, MIN, MAX);
        influence(x, 0, 1, 8, 1, 1);
        x.bridge(20, bits(0, 5, 10, 15, 20), bits(7, 12, 17));
        Due.due("support 4 of five", x.influence(1, 0, 4, 20, 0), 1);
        Due.due("support 5 of five", x.influence(1, 0, 5, 20, 0), UNKNOWN);
    }

    private static void promise4_kindBelow0OrAbove1IsOutside() {
        RollingLoads x = withArms();
        Due.each("kind", kind -> x.influence(0, kind, 0, 0, 0), OUTSIDE, -1, 2, MIN, MAX);
        Due.each("kind, with no support and no place,", kind -> x.influence(0, kind, 99, 0, 0), OUTSIDE, -1, 2);
    }

    private static void promise4_placeBelow0OrAboveLengthIsOutside() {
        RollingLoads x = withArms();
        Due.each("place", at -> x.influence(0, 1, at, 0, 0), OUTSIDE, -1, 11, 61, MIN, MAX);
        Due.due("place LENGTH is inside", x.influence(0, 1, 10, 0, 1), 1);
        Due.due("place 0 is inside", x.influence(0, 1, 0, 0, 1), 1);
    }

    private static void promise4_aBelow0OrAboveLengthIsOutside() {
        RollingLoads x = withArms();
        Due.each("a", a -> x.influence(0, 0, 0, a, 0), OUTSIDE, -1, 11, 61, MIN, MAX);
        Due.each("a, for a moment,", a -> x.influence(0, 1, 5, a, 0), OUTSIDE, -1, 11, 61, MIN, MAX);
    }

    private static void promise4_whatBelow0OrAbove1IsOutside() {
        RollingLoads x = withArms();
        Due.each("what", what -> x.influence(0, 0, 0, 0, what), OUTSIDE, -1, 2, MIN, MAX);
    }

    private static void promise4_unknownIsAheadOfOutside() {
        RollingLoads x = withArms();
        Due.due("bridge, kind", x.influence(1, 2, 0, 0, 0), UNKNOWN);
        Due.due("bridge, place", x.influence(1, 1, 99, 0, 0), UNKNOWN);
        Due.due("support, a", x.influence(0, 0, 2, 11, 0), UNKNOWN);
        Due.due("support, what", x.influence(0, 0, 2, 0, 2), UNKNOWN);
    }

    // ---- promise 5: rule

    /** From the least to the greatest, what each was, and nothing beside. */
    private static void ruleBounds(int what, int first, int least, int most) {
        RollingLoads x = Made.beam(10);
        x.bridge(12, bits(0, 12), 0);
        Due.each("v too low:", v -> x.rule(0, what, v), OUTSIDE, least - 1, least - 2, MIN);
        Due.each("v too high:", v -> x.rule(0, what, v), OUTSIDE, most + 1, most + 2, MAX);
        Due.due("what is refused changes nothing", x.told(0, 4 + what), first);
        Due.due("the least", x.rule(0, what, least), first);
        Due.due("is kept", x.told(0, 4 + what), least);
        Due.due("the most", x.rule(0, what, most), least);
        Due.due("is kept", x.told(0, 4 + what), most);
        Due.due("the same again", x.rule(0, what, most), most);
        for (int other = 0; other < 3; other++) {
            int want = new int[] {30, 1, 50}[other];
            Due.due("the other bridge keeps its own", x.told(1, 4 + other), want);
            Due.due("other rules stay", x.told(0, 4 + other), other == what ? most : want);
        }
    }

    private static void promise5_shakeFrom0To60() {
        ruleBounds(0, 30, 0, 60);
    }

    private static void promise5_lanesFrom1To4() {
        ruleBounds(1, 1, 1, 4);
    }

    private static void promise5_shareFrom0To100() {
        ruleBounds(2, 50, 0, 100);
    }

    private static void promise5_whatBelow0OrAbove2IsOutside() {
        RollingLoads x = Made.beam(10);
        Due.each("what", what -> x.rule(0, what, 1), OUTSIDE, -1, 3, 4, MIN, MAX);
    }

    private static void promise5_aBridgeThatThereIsNotIsUnknown() {
        RollingLoads x = Made.beam(10);
        Due.each("bridge", b -> x.rule(b, 0, 1), UNKNOWN, -1, 1, 6, MIN, MAX);
        Due.due("ahead of what", x.rule(1, 3, 1), UNKNOWN);
        Due.due("ahead of v", x.rule(1, 0, 61), UNKNOWN);
        Due.due("nothing has changed", x.told(0, 4), 30);
    }

    public static void main(String[] args) {
        Cases.run(BridgesTest.class, Cases.parts("promise", 1, 5));
    }
}
