/** Promises 18 to 20: road, route, why. */
public final class RoadsTest {
    private static final int NONE = RollingLoads.NONE;
    private static final int UNKNOWN = RollingLoads.UNKNOWN;
    private static final int OUTSIDE = RollingLoads.OUTSIDE;
    private static final int FULL = RollingLoads.FULL;

    private static void roads() {
        RollingLoads x = new RollingLoads();
        x.bridge(10, Due.bits(0, 10), 0);
        Due.due("from -1", x.road(-1, 0, 0, NONE), UNKNOWN);
        Due.due("from 10", x.road(10, 0, 0, NONE), UNKNOWN);
        Due.due("to -1", x.road(0, -1, 0, NONE), UNKNOWN);
        Due.due("to 10", x.road(0, 10, 0, NONE), UNKNOWN);
        Due.due("a town twice that there is not", x.road(10, 10, 1, NONE), UNKNOWN);
        Due.due("bridge 1", x.road(0, 0, 0, 1), UNKNOWN);
        Due.due("bridge -2", x.road(0, 1, 1, -2), UNKNOWN);
        Due.due("a town twice", x.road(3, 3, 1, NONE), OUTSIDE);
        Due.due("0 miles", x.road(0, 1, 0, NONE), OUTSIDE);
        Due.due("501 miles", x.road(0, 1, 501, 0), OUTSIDE);
        Due.due("none yet", x.count(2), 0);
        for (int r = 0; r < 24; r++) {
            Due.due("road " + r, x.road(r % 9, 9, r == 0 ? 1 : 500, r % 2 == 0 ? 0 : NONE), r);
        }
        Due.due("UNKNOWN is ahead of FULL", x.road(0, 1, 1, 1), UNKNOWN);
        Due.due("OUTSIDE is ahead of FULL", x.road(0, 0, 1, 0), OUTSIDE);
        Due.due("the 25th", x.road(0, 1, 1, 0), FULL);
        Due.due("24", x.count(2), 24);
        x.train(1);
        Due.due("over the first", x.route(0, 0, 0, 9, 2), 0);
        Due.due("over the first that goes there", x.route(0, 0, 5, 9, 2), 5);
    }

    private static void route(RollingLoads x, int mode, int from, int to, int... want) {
        for (int what = 0; what < 12; what++) {
            Due.due("route mode " + mode + " " + from + " to " + to + " what " + what,
                    x.route(0, mode, from, to, what), what < want.length ? want[what] : NONE);
        }
    }

    private static void leastMiles() {
        RollingLoads x = new RollingLoads();
        x.train(50);
        route(x, 0, 0, 1);
        x.road(0, 1, 10, NONE);
        x.road(1, 2, 10, NONE);
        x.road(0, 2, 21, NONE);
        route(x, 0, 0, 2, 20, 2, 0, 1);
        route(x, 0, 2, 0, 20, 2, 1, 0);
        route(x, 0, 0, 3);
        // As many miles by fewer roads.
        x.road(2, 0, 20, NONE);
        route(x, 0, 0, 2, 20, 1, 3);
        // And the same again: the first by number.
        x.road(0, 2, 20, NONE);
        route(x, 0, 0, 2, 20, 1, 3);
        route(x, 0, 2, 0, 20, 1, 3);
    }

    /** Of ways with as many miles and roads the first by numbers, looked at from where it begins. */
    private static void firstByNumbers() {
        RollingLoads x = new RollingLoads();
        x.train(50);
        x.road(2, 3, 5, NONE);
        x.road(0, 2, 5, NONE);
        x.road(0, 1, 5, NONE);
        x.road(1, 3, 5, NONE);
        route(x, 0, 0, 3, 10, 2, 1, 0);
        route(x, 0, 3, 0, 10, 2, 0, 1);
        RollingLoads y = new RollingLoads();
        y.train(50);
        y.road(0, 1, 5, NONE);
        y.road(3, 2, 5, NONE);
        y.road(0, 2, 5, NONE);
        y.road(1, 3, 5, NONE);
        route(y, 0, 0, 3, 10, 2, 0, 3);
        route(y, 0, 3, 0, 10, 2, 1, 2);
    }

    private static void longestWay() {
        RollingLoads x = new RollingLoads();
        x.train(50);
        for (int town = 9; town > 0; town--) {
            x.road(town, town - 1, 500, NONE);
        }
        route(x, 2, 0, 9, 4500, 9, 8, 7, 6, 5, 4, 3, 2, 1, 0);
        route(x, 2, 9, 0, 4500, 9, 0, 1, 2, 3, 4, 5, 6, 7, 8);
    }

    /** 0 to 1 over bridge 0, which 50 fails free; 0 to 2 to 1 over bridge 1 and none; 3 over both. */
    private static RollingLoads twoBridges() {
        RollingLoads x = new RollingLoads();
        x.bridge(8, Due.bits(0, 8), 0);
        x.bridge(16, Due.bits(0, 16), 0);
        x.train(50);
        x.check(0, 1, 4, 100, 0);
        x.check(1, 0, 0, 65, 0);
        x.check(1, 1, 8, 259, 0);
        x.road(0, 1, 5, 0);
        x.road(0, 2, 5, 1);
        x.road(2, 1, 5, NONE);
        x.road(1, 3, 7, 0);
        return x;
    }

    private static void overBridges() {
        RollingLoads x = twoBridges();
        route(x, 0, 0, 1);
        Due.due("bridge 0 stands in the way", x.why(0, 0, 0, 1), 0);
        route(x, 2, 0, 1, 5, 1, 0);
        Due.due("no need to ask", x.why(0, 2, 0, 1), NONE);
        x.limit(1, 1, 260, 0);
        route(x, 0, 0, 1, 10, 2, 1, 2);
        Due.due("a way round", x.why(0, 0, 0, 1), NONE);
        route(x, 0, 0, 3);
        Due.due("no way round", x.why(0, 0, 0, 3), 0);
        route(x, 0, 2, 1, 5, 1, 2);
        x.limit(1, 1, 100, 0);
        Due.due("the second check of bridge 1", x.why(0, 0, 0, 2), 11);
        x.limit(1, 0, 64, 0);
        Due.due("the first check of bridge 1", x.why(0, 0, 0, 2), 10);
        x.limit(0, 0, 130, 0);
        route(x, 0, 0, 2, 10, 2, 0, 2);
        Due.due("to a town without roads", x.why(0, 0, 0, 9), NONE);
        // With other lanes full it fails, escorted it does not.
        x.usual(0);
        x.rule(0, 1, 2);
        route(x, 0, 0, 3);
        route(x, 1, 0, 3, 12, 2, 0, 3);
        Due.due("free", x.why(0, 0, 0, 3), 0);
        Due.due("escorted", x.why(0, 1, 0, 3), NONE);
    }

    /** WHY NOT looks along the way from its beginning, not by the bridges' numbers. */
    private static void whyAlongTheWay() {
        RollingLoads x = twoBridges();
        x.road(2, 4, 5, 1);
        x.road(4, 5, 5, 0);
        Due.due("bridge 1 first", x.why(0, 0, 2, 5), 11);
        Due.due("bridge 0 first", x.why(0, 0, 5, 2), 0);
        Due.due("over no bridge, then 1", x.why(0, 0, 1, 4), 11);
    }

    private static void refusals() {
        RollingLoads x = twoBridges();
        Due.due("train 1", x.route(1, 9, 0, 0, 99), UNKNOWN);
        Due.due("train -1", x.route(NONE, 0, 0, 1, 0), UNKNOWN);
        Due.due("from 10", x.route(0, 9, 10, 0, 99), UNKNOWN);
        Due.due("from -1", x.route(0, 0, -1, 0, 0), UNKNOWN);
        Due.due("to 10", x.route(0, 9, 0, 10, 99), UNKNOWN);
        Due.due("to -1", x.route(0, 0, 0, -1, 0), UNKNOWN);
        Due.due("mode 3", x.route(0, 3, 0, 1, 0), OUTSIDE);
        Due.due("mode -1", x.route(0, -1, 0, 1, 0), OUTSIDE);
        Due.due("what 12", x.route(0, 2, 0, 1, 12), OUTSIDE);
        Due.due("what -1", x.route(0, 2, 0, 1, -1), OUTSIDE);
        Due.due("one town twice", x.route(0, 2, 1, 1, 0), OUTSIDE);
        Due.due("OUTSIDE, though there is no route", x.route(0, 2, 0, 9, 12), OUTSIDE);
        Due.due("why: train 1", x.why(1, 9, 0, 0), UNKNOWN);
        Due.due("why: from 10", x.why(0, 9, 10, 0), UNKNOWN);
        Due.due("why: from -1", x.why(0, 9, -1, 0), UNKNOWN);
        Due.due("why: to 10", x.why(0, 9, 0, 10), UNKNOWN);
        Due.due("why: to -1", x.why(0, 9, 0, -1), UNKNOWN);
        Due.due("why: mode 3", x.why(0, 3, 0, 1), OUTSIDE);
        Due.due("why: mode -1", x.why(0, -1, 0, 1), OUTSIDE);
        Due.due("why: one town twice", x.why(0, 0, 1, 1), OUTSIDE);
    }

    public static void main(String[] args) {
        roads();
        leastMiles();
        firstByNumbers();
        longestWay();
        overBridges();
        whyAlongTheWay();
        refusals();
        Due.end();
    }
}
