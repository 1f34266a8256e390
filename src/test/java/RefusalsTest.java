import java.util.List;
import java.util.function.Supplier;
import java.util.function.ToLongFunction;

/** "What is refused changes nothing", for each call and each of its refusals; nor does what only asks. */
public final class RefusalsTest {
    private static final int NONE = RollingLoads.NONE;
    private static final int UNKNOWN = RollingLoads.UNKNOWN;
    private static final int OUTSIDE = RollingLoads.OUTSIDE;
    private static final int NOT = RollingLoads.NOT;
    private static final int FULL = RollingLoads.FULL;

    /** Of two like objects one is called: after that both show the same. */
    private static void same(Supplier<RollingLoads> made, String name, long want, ToLongFunction<RollingLoads> call) {
        RollingLoads called = made.get();
        RollingLoads left = made.get();
        Due.due(name, call.applyAsLong(called), want);
        List<Long> got = Picture.of(called);
        List<Long> due = Picture.of(left);
        Due.holds(name + " changes nothing", got.equals(due));
    }

    private static void some(String name, long want, ToLongFunction<RollingLoads> call) {
        same(Made::some, name, want, call);
    }

    private static void full(String name, long want, ToLongFunction<RollingLoads> call) {
        same(Made::full, name, want, call);
    }

    /** Else nothing above would be seen. */
    private static void terms0_whatIsNotRefusedChangesWhatIsSeen() {
        List<Long> before = Picture.of(Made.some());
        List<ToLongFunction<RollingLoads>> calls = List.of(
                x -> x.bridge(10, Due.bits(0, 10), 0), x -> x.rule(0, 0, 1), x -> x.rule(1, 1, 2),
                x -> x.rule(2, 2, 1), x -> x.train(1), x -> x.axle(1, 1, 1), x -> x.check(0, 0, 0, 1, 0),
                x -> x.limit(2, 0, 5, -120), x -> x.limit(2, 0, 90, -5), x -> x.usual(0), x -> x.usual(NONE),
                x -> x.road(0, 9, 1, NONE), x -> x.traffic(0, 4));
        for (int i = 0; i < calls.size(); i++) {
            RollingLoads x = Made.some();
            Due.holds("call " + i + " is not refused", calls.get(i).applyAsLong(x) > UNKNOWN);
            Due.holds("call " + i + " is seen", !Picture.of(x).equals(before));
        }
    }

    private static void promise2_aRefusedBridgeChangesNothing() {
        some("too long", OUTSIDE, x -> x.bridge(61, Due.bits(0, 60), 0));
        some("too few supports", OUTSIDE, x -> x.bridge(60, Due.bits(0), 0));
        some("a hinge too many", OUTSIDE, x -> x.bridge(60, Due.bits(0, 60), Due.bits(5)));
        some("loose", NOT, x -> x.bridge(10, Due.bits(0, 2, 4), Due.bits(6)));
        full("one more", FULL, x -> x.bridge(60, Due.bits(0, 60), 0));
        full("loose, where all is full", NOT, x -> x.bridge(10, Due.bits(0, 2, 4), Due.bits(6)));
        full("too short, where all is full", OUTSIDE, x -> x.bridge(1, Due.bits(0, 1), 0));
    }

    private static void promise2_aLooseBridgeLeavesNothingForTheNext() {
        RollingLoads x = new RollingLoads();
        RollingLoads y = new RollingLoads();
        Due.due("loose", x.bridge(40, Due.bits(0, 12, 15, 18, 32), Due.bits(10, 20, 35)), NOT);
        Due.due("loose, and shorter", x.bridge(10, Due.bits(0, 2, 4), Due.bits(6)), NOT);
        x.bridge(20, Due.bits(0, 4, 14, 20), Due.bits(7, 12));
        y.bridge(20, Due.bits(0, 4, 14, 20), Due.bits(7, 12));
        for (int a = 0; a <= 20; a++) {
            Due.due("reaction, load at " + a, x.influence(0, 0, 1, a, 0), y.influence(0, 0, 1, a, 0));
            Due.due("moment, load at " + a, x.influence(0, 1, 9, a, 1), y.influence(0, 1, 9, a, 1));
        }
    }

    private static void promise5_aRefusedRuleChangesNothing() {
        some("bridge", UNKNOWN, x -> x.rule(3, 0, 1));
        some("what", OUTSIDE, x -> x.rule(0, 3, 1));
        some("what below", OUTSIDE, x -> x.rule(0, -1, 1));
        some("SHAKE", OUTSIDE, x -> x.rule(0, 0, 61));
        some("LANES", OUTSIDE, x -> x.rule(0, 1, 5));
        some("LANES below", OUTSIDE, x -> x.rule(0, 1, 0));
        some("SHARE", OUTSIDE, x -> x.rule(0, 2, 101));
        some("SHARE below", OUTSIDE, x -> x.rule(0, 2, -1));
    }

    private static void promise6_aRefusedTrainChangesNothing() {
        some("too light", OUTSIDE, x -> x.train(0));
        some("too heavy", OUTSIDE, x -> x.train(201));
        full("one more", FULL, x -> x.train(1));
        full("too heavy, where all is full", OUTSIDE, x -> x.train(201));
    }

    private static void promise7_aRefusedAxleChangesNothing() {
        some("train", UNKNOWN, x -> x.axle(2, 1, 1));
        some("gap", OUTSIDE, x -> x.axle(0, 21, 1));
        some("weight", OUTSIDE, x -> x.axle(0, 1, 0));
        full("one more", FULL, x -> x.axle(0, 1, 1));
        full("gap, where all is full", OUTSIDE, x -> x.axle(0, 0, 1));
    }

    private static void promise11_aRefusedCheckChangesNothing() {
        some("bridge", UNKNOWN, x -> x.check(3, 1, 0, 1, 0));
        some("support", UNKNOWN, x -> x.check(0, 0, 2, 1, 0));
        some("kind", OUTSIDE, x -> x.check(0, 2, 0, 1, 0));
        some("place", OUTSIDE, x -> x.check(0, 1, 9, 1, 0));
        some("high", OUTSIDE, x -> x.check(0, 1, 4, -1, 0));
        some("low", OUTSIDE, x -> x.check(0, 1, 4, 1, 1));
        full("one more", FULL, x -> x.check(0, 1, 4, 1, 0));
        full("low, where all is full", OUTSIDE, x -> x.check(0, 1, 4, 1, 1));
    }

    private static void promise12_aRefusedLimitChangesNothing() {
        some("bridge", UNKNOWN, x -> x.limit(3, 0, 1, 0));
        some("check", UNKNOWN, x -> x.limit(2, 1, 5, -5));
        some("high", OUTSIDE, x -> x.limit(2, 0, 100001, -5));
        some("high below", OUTSIDE, x -> x.limit(2, 0, -1, -5));
        some("low", OUTSIDE, x -> x.limit(2, 0, 5, -100001));
        some("low above", OUTSIDE, x -> x.limit(2, 0, 5, 1));
    }

    private static void promise13_aRefusedUsualChangesNothing() {
        some("train 2", UNKNOWN, x -> x.usual(2));
        some("train -2", UNKNOWN, x -> x.usual(-2));
        full("train 8", UNKNOWN, x -> x.usual(8));
    }

    private static void promise18_aRefusedRoadChangesNothing() {
        some("from", UNKNOWN, x -> x.road(10, 0, 1, NONE));
        some("to", UNKNOWN, x -> x.road(0, -1, 1, NONE));
        some("bridge", UNKNOWN, x -> x.road(0, 9, 1, 3));
        some("miles", OUTSIDE, x -> x.road(0, 9, 0, NONE));
        some("one town twice", OUTSIDE, x -> x.road(0, 0, 1, NONE));
        full("one more", FULL, x -> x.road(0, 9, 1, NONE));
        full("miles, where all is full", OUTSIDE, x -> x.road(0, 9, 501, NONE));
    }

    private static void promise22_refusedTrafficChangesNothing() {
        some("train", UNKNOWN, x -> x.traffic(2, 1));
        some("too many", OUTSIDE, x -> x.traffic(0, 1001));
        some("too few", OUTSIDE, x -> x.traffic(0, -1));
    }

    private static void terms0_whatOnlyAsksChangesNothing() {
        some("told", 8, x -> x.told(0, 0));
        some("influence", 1, x -> x.influence(0, 0, 0, 0, 0));
        some("axles", 60, x -> x.axles(1, 1, 0));
        some("effect", 50, x -> x.effect(0, 0, 0, 0, 0, 0, 0));
        some("worst", 50, x -> x.worst(0, 0, 0, 0, 0, 0));
        some("total", 100, x -> x.total(0, 0, 0, 2, 0, 0));
        some("fails", 0, x -> x.fails(0, 0, 0));
        some("posted", 3, x -> x.posted(0, 0));
        some("spread", NONE, x -> x.spread(0, 0, 0));
        some("route", 5, x -> x.route(0, 2, 0, 1, 0));
        some("why", 0, x -> x.why(0, 0, 1, 3));
        some("wear", 2 * 50 * 50 * 50, x -> x.wear(0, 0, 0, 0, 0));
        some("worn", 3 * 2 * 50 * 50 * 50 + 40 * wearOfTrain1(), x -> x.worn(0, 0, 0));
        some("count", 3, x -> x.count(0));
    }

    private static long wearOfTrain1() {
        return Made.some().wear(0, 0, 0, 1, 0);
    }

    private static void terms0_whatIsAskedInVainChangesNothing() {
        some("told", OUTSIDE, x -> x.told(0, 7));
        some("influence", OUTSIDE, x -> x.influence(0, 1, 4, 9, 0));
        some("axles", NONE, x -> x.axles(1, 3, 0));
        some("effect", OUTSIDE, x -> x.effect(0, 0, 0, 0, 0, 9, 0));
        some("worst", UNKNOWN, x -> x.worst(0, 0, 2, 0, 0, 0));
        some("total", UNKNOWN, x -> x.total(0, 1, 0, 0, 0, 0));
        some("fails", OUTSIDE, x -> x.fails(0, 0, 3));
        some("posted", UNKNOWN, x -> x.posted(0, 2));
        some("spread", OUTSIDE, x -> x.spread(0, 0, 3));
        some("route", OUTSIDE, x -> x.route(0, 0, 0, 0, 0));
        some("why", UNKNOWN, x -> x.why(0, 0, 0, 10));
        some("wear", OUTSIDE, x -> x.wear(0, 0, 0, 0, 3));
        some("worn", OUTSIDE, x -> x.worn(0, 1, 9));
        some("count", OUTSIDE, x -> x.count(6));
    }

    public static void main(String[] args) {
        Cases.run(RefusalsTest.class, "terms0", "promise2", "promise5", "promise6", "promise7", "promise11",
                "promise12", "promise13", "promise18", "promise22");
    }
}
