/** Promises 21 to 24: wear, traffic, worn, count. */
public final class TurnsTest {
    private static final int NONE = RollingLoads.NONE;
    private static final int UNKNOWN = RollingLoads.UNKNOWN;
    private static final int OUTSIDE = RollingLoads.OUTSIDE;

    private static void wear(RollingLoads x, int b, int kind, int at, int t, long... want) {
        for (int what = 0; what < 3; what++) {
            Due.due("wear " + b + " " + kind + " " + at + " " + t + " what " + what,
                    x.wear(b, kind, at, t, what), want[what]);
        }
    }

    private static RollingLoads beamOfTen() {
        RollingLoads x = new RollingLoads();
        x.bridge(10, Due.bits(0, 10), 0);
        x.train(10);
        return x;
    }

    private static void halfTurns() {
        RollingLoads x = beamOfTen();
        // Up to 24 at place 4 and down again.
        wear(x, 0, 1, 4, 0, 2 * 24 * 24 * 24, 0, 2);
        // All effects are 0: what is left is one step of 0, from the first number to the last.
        wear(x, 0, 1, 0, 0, 0, 0, 1);
        wear(x, 0, 1, 10, 0, 0, 0, 1);
        // From 0 to 10 at once and down.
        wear(x, 0, 0, 0, 0, 2000, 0, 2);
        // A weight of 7 at place 5 makes 35 / 2, of which 17 counts.
        x.train(7);
        wear(x, 0, 1, 5, 1, 2 * 17 * 17 * 17, 0, 2);
    }

    private static void wholeTurns() {
        RollingLoads x = beamOfTen();
        // Two like axles 20 apart, one at a time: 0, 24, 0, 24, 0. Inner ones of the first four go
        // out as a whole turn of 24; 0, 24, 0 is left.
        x.axle(0, 20, 10);
        wear(x, 0, 1, 4, 0, 4 * 24 * 24 * 24, 1, 2);
        // 0, 24, 0, 12, 0: of the last four the inner step is like the last one.
        x.train(10);
        x.axle(1, 20, 5);
        wear(x, 0, 1, 4, 1, 2 * 24 * 24 * 24 + 2 * 12 * 12 * 12, 1, 2);
        // 0, 12, 0, 24, 0: the inner step of 12 is not greater than the first, nor than the last.
        x.train(5);
        x.axle(2, 20, 10);
        wear(x, 0, 1, 4, 2, 2 * 12 * 12 * 12 + 2 * 24 * 24 * 24, 1, 2);
        // 0, 24, 0, 12, 0, 24, 0: 12 up and down goes out first, then 24.
        x.train(10);
        x.axle(3, 20, 5);
        x.axle(3, 20, 10);
        wear(x, 0, 1, 4, 3, 4 * 24 * 24 * 24 + 2 * 12 * 12 * 12, 2, 2);
    }

    /** 0, 165, -60, 15, -45 / 2, 0: steps that grow less all the time are half turns. */
    private static void halfTurnsAfterHalfTurns() {
        RollingLoads x = new RollingLoads();
        x.bridge(30, Due.bits(0, 10, 20, 30), Due.bits(13, 17));
        x.train(30);
        x.axle(0, 4, 60);
        x.axle(0, 9, 15);
        long[] cutSteps = {165, 225, 75, 37, 22};
        long sum = 0;
        for (long step : cutSteps) {
            sum += step * step * step;
        }
        wear(x, 0, 1, 5, 0, sum, 0, 5);
        // A whole turn of 15 / 2, of which 7 counts, between half turns of 93.
        wear(x, 0, 0, 1, 0, 2 * 7 * 7 * 7 + 2 * 93 * 93 * 93, 1, 2);
    }

    /** Way 0 alone counts: the same train told the other way round turns otherwise. */
    private static void wayNought() {
        RollingLoads x = new RollingLoads();
        x.bridge(10, Due.bits(0, 8), 0);
        x.train(20);
        x.axle(0, 4, 5);
        x.train(5);
        x.axle(1, 4, 20);
        Oracle o = new Oracle();
        o.bridge(10, Due.bits(0, 8), 0);
        o.train(20);
        o.axle(0, 4, 5);
        o.train(5);
        o.axle(1, 4, 20);
        for (int t = 0; t < 2; t++) {
            wear(x, 0, 1, 3, t, o.wear(0, 1, 3, t, 0), o.wear(0, 1, 3, t, 1), o.wear(0, 1, 3, t, 2));
        }
        Due.holds("told either way it wears otherwise", x.wear(0, 1, 3, 0, 0) != x.wear(0, 1, 3, 1, 0));
        x.traffic(0, 1);
        Due.due("worn of the one", x.worn(0, 1, 3), o.wear(0, 1, 3, 0, 0));
        x.traffic(1, 5);
        Due.due("worn of both", x.worn(0, 1, 3), o.wear(0, 1, 3, 0, 0) + 5 * o.wear(0, 1, 3, 1, 0));
    }

    /** Arms of 14 on spans of 1 lift a load to some ten millions, whose third power wraps. */
    private static void wrapping() {
        RollingLoads x = new RollingLoads();
        Oracle o = new Oracle();
        long supports = Due.bits(0, 1, 16, 31, 46);
        long hinges = Due.bits(15, 30, 45);
        Due.due("arms", x.bridge(60, supports, hinges), o.bridge(60, supports, hinges));
        x.train(200);
        o.train(200);
        for (int n = 2; n <= 8; n++) {
            x.axle(0, 1, 200);
            o.axle(0, 1, 200);
        }
        Due.holds("far above what a long holds", x.worst(0, 0, 0, 0, 0, 0) > 4000000L);
        for (int at = 0; at < 5; at++) {
            wear(x, 0, 0, at, 0, o.wear(0, 0, at, 0, 0), o.wear(0, 0, at, 0, 1), o.wear(0, 0, at, 0, 2));
        }
        for (int at = 0; at <= 60; at++) {
            wear(x, 0, 1, at, 0, o.wear(0, 1, at, 0, 0), o.wear(0, 1, at, 0, 1), o.wear(0, 1, at, 0, 2));
        }
        long once = x.wear(0, 0, 0, 0, 0);
        x.traffic(0, 1000);
        Due.due("worn wraps", x.worn(0, 0, 0), 1000 * once);
    }

    private static void wearRefusals() {
        RollingLoads x = beamOfTen();
        Due.due("bridge 1", x.wear(1, 0, 0, 0, 9), UNKNOWN);
        Due.due("support 2", x.wear(0, 0, 2, 0, 9), UNKNOWN);
        Due.due("train 1", x.wear(0, 2, 0, 1, 9), UNKNOWN);
        Due.due("kind 2", x.wear(0, 2, 0, 0, 0), OUTSIDE);
        Due.due("place 11", x.wear(0, 1, 11, 0, 0), OUTSIDE);
        Due.due("place -1", x.wear(0, 1, -1, 0, 0), OUTSIDE);
        Due.due("what 3", x.wear(0, 0, 0, 0, 3), OUTSIDE);
        Due.due("what -1", x.wear(0, 0, 0, 0, -1), OUTSIDE);
    }

    private static void traffic() {
        RollingLoads x = beamOfTen();
        x.train(20);
        Due.due("train 2", x.traffic(2, -1), UNKNOWN);
        Due.due("train -1", x.traffic(NONE, 0), UNKNOWN);
        Due.due("-1", x.traffic(0, -1), OUTSIDE);
        Due.due("1001", x.traffic(0, 1001), OUTSIDE);
        Due.due("nothing worn yet", x.worn(0, 1, 5), 0);
        Due.due("0 at first", x.traffic(0, 3), 0);
        Due.due("3 of 25, up and down", x.worn(0, 1, 5), 3 * 2 * 25 * 25 * 25);
        Due.due("3 before it is 1", x.traffic(0, 1), 3);
        Due.due("1 of 25, up and down", x.worn(0, 1, 5), 2 * 25 * 25 * 25);
        Due.due("1 before it is 3", x.traffic(0, 3), 1);
        Due.due("0 of the other", x.traffic(1, 1000), 0);
        Due.due("and 1000 of 50", x.worn(0, 1, 5), 3 * 31250 + 1000 * 250000);
        Due.due("all", x.count(5), 1003);
        Due.due("3 before", x.traffic(0, 0), 3);
        Due.due("1000 of 50", x.worn(0, 1, 5), 250000000);
        Due.due("of a support", x.worn(0, 0, 0), 1000 * 2 * 8000);
        Due.due("bridge 1", x.worn(1, 2, 0), UNKNOWN);
        Due.due("support 2", x.worn(0, 0, 2), UNKNOWN);
        Due.due("support -1", x.worn(0, 0, -1), UNKNOWN);
        Due.due("kind 2", x.worn(0, 2, 0), OUTSIDE);
        Due.due("place 11", x.worn(0, 1, 11), OUTSIDE);
        Due.due("place -1", x.worn(0, 1, -1), OUTSIDE);
    }

    private static void counts() {
        RollingLoads x = beamOfTen();
        x.bridge(12, Due.bits(0, 12), 0);
        x.train(5);
        x.train(6);
        x.check(0, 0, 0, 1, 0);
        x.check(1, 0, 0, 1, 0);
        x.check(1, 0, 1, 1, 0);
        x.check(1, 1, 6, 1, 0);
        for (int to = 1; to <= 5; to++) {
            x.road(0, to, 1, NONE);
        }
        x.usual(2);
        x.traffic(0, 400);
        x.traffic(2, 700);
        int[] want = {2, 3, 5, 4, 2, 1100};
        for (int what = 0; what < want.length; what++) {
            Due.due("count(" + what + ")", x.count(what), want[what]);
        }
        Due.due("count(-1)", x.count(-1), OUTSIDE);
        Due.due("count(6)", x.count(6), OUTSIDE);
    }

    public static void main(String[] args) {
        halfTurns();
        wholeTurns();
        halfTurnsAfterHalfTurns();
        wayNought();
        wrapping();
        wearRefusals();
        traffic();
        counts();
        Due.end();
    }
}
