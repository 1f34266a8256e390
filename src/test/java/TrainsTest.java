/** Promises 6 to 10: train, axle, axles, effect, worst. */
public final class TrainsTest {
    private static final int NONE = RollingLoads.NONE;
    private static final int UNKNOWN = RollingLoads.UNKNOWN;
    private static final int OUTSIDE = RollingLoads.OUTSIDE;
    private static final int FULL = RollingLoads.FULL;

    private static void trains() {
        RollingLoads x = new RollingLoads();
        Due.due("train(0)", x.train(0), OUTSIDE);
        Due.due("train(201)", x.train(201), OUTSIDE);
        Due.due("train(-5)", x.train(-5), OUTSIDE);
        for (int t = 0; t < 8; t++) {
            Due.due("train " + t, x.train(t == 0 ? 1 : 200), t);
        }
        Due.due("OUTSIDE is ahead of FULL", x.train(201), OUTSIDE);
        Due.due("the ninth", x.train(1), FULL);
        Due.due("eight", x.count(1), 8);
        Due.due("beyond eight", x.axles(8, 0, 0), UNKNOWN);
        Due.due("beyond eight: axle", x.axle(8, 1, 1), UNKNOWN);
        Due.due("beyond eight: usual", x.usual(8), UNKNOWN);
        Due.due("beyond eight: traffic", x.traffic(8, 1), UNKNOWN);
        Due.due("nothing is worn where there is no bridge", x.worn(0, 0, 0), UNKNOWN);
        Due.due("no traffic", x.count(5), 0);
        Due.due("its one axle", x.axles(0, 0, 0), 1);
        Due.due("one axle", x.axles(7, NONE, 0), 1);
    }

    private static void axles() {
        RollingLoads x = new RollingLoads();
        x.train(7);
        Due.due("UNKNOWN is ahead of OUTSIDE", x.axle(1, 0, 0), UNKNOWN);
        Due.due("train -1", x.axle(-1, 1, 1), UNKNOWN);
        Due.due("gap 0", x.axle(0, 0, 1), OUTSIDE);
        Due.due("gap 21", x.axle(0, 21, 1), OUTSIDE);
        Due.due("weight 0", x.axle(0, 1, 0), OUTSIDE);
        Due.due("weight 201", x.axle(0, 1, 201), OUTSIDE);
        Due.due("still one", x.axles(0, NONE, 0), 1);
        x.train(200);
        Due.due("the least", x.axle(1, 1, 1), 2);
        Due.due("the most", x.axle(1, 20, 200), 3);
        for (int n = 2; n <= 8; n++) {
            Due.due("axle " + n, x.axle(0, n, 10 * n), n);
        }
        Due.due("OUTSIDE is ahead of FULL", x.axle(0, 0, 1), OUTSIDE);
        Due.due("the ninth axle", x.axle(0, 20, 200), FULL);
        Due.due("how many", x.axles(0, NONE, 0), 8);
        Due.due("all gaps", x.axles(0, NONE, 1), 2 + 3 + 4 + 5 + 6 + 7 + 8);
        Due.due("first weight", x.axles(0, 0, 0), 7);
        Due.due("first gap", x.axles(0, 0, 1), 0);
        Due.due("last weight", x.axles(0, 7, 0), 80);
        Due.due("last gap", x.axles(0, 7, 1), 8);
        Due.due("axle 8", x.axles(0, 8, 0), NONE);
        Due.due("axle -2", x.axles(0, -2, 1), NONE);
        Due.due("axle MAX", x.axles(0, Integer.MAX_VALUE, 0), NONE);
        Due.due("what 2", x.axles(0, 0, 2), OUTSIDE);
        Due.due("what -1, no axle", x.axles(0, 9, -1), OUTSIDE);
        Due.due("what 2 of all", x.axles(0, NONE, 2), OUTSIDE);
        Due.due("UNKNOWN is ahead", x.axles(2, 0, 2), UNKNOWN);
    }

    private static void effect(RollingLoads x, int kind, int at, int way, int time, long upper, long lower) {
        Due.fraction("effect " + kind + " " + at + " way " + way + " time " + time,
                x.effect(0, kind, at, 0, way, time, 0), x.effect(0, kind, at, 0, way, time, 1), upper, lower);
    }

    /** A beam of 10 on its ends, three axles 2 and 5 apart: unlike gaps tell the ways apart. */
    private static RollingLoads threeAxles() {
        RollingLoads x = new RollingLoads();
        x.bridge(10, Due.bits(0, 10), 0);
        x.train(10);
        x.axle(0, 2, 20);
        x.axle(0, 5, 30);
        return x;
    }

    private static void effects() {
        RollingLoads x = threeAxles();
        effect(x, 0, 1, 0, 0, 0, 1);
        effect(x, 0, 0, 0, 0, 10, 1);
        effect(x, 0, 1, 0, 3, 5, 1);
        effect(x, 0, 1, 0, 8, 23, 1);
        effect(x, 0, 1, 0, 10, 35, 1);
        effect(x, 0, 1, 0, 11, 30, 1);
        effect(x, 0, 1, 0, 17, 30, 1);
        effect(x, 0, 1, 1, 0, 0, 1);
        effect(x, 0, 0, 1, 0, 30, 1);
        effect(x, 0, 1, 1, 6, 20, 1);
        effect(x, 0, 1, 1, 7, 25, 1);
        effect(x, 0, 1, 1, 17, 10, 1);
        effect(x, 1, 3, 0, 4, 46, 1);
        Due.due("way 2", x.effect(0, 0, 0, 0, 2, 0, 0), OUTSIDE);
        Due.due("way -1", x.effect(0, 0, 0, 0, -1, 0, 0), OUTSIDE);
        Due.due("time 18", x.effect(0, 0, 0, 0, 0, 18, 0), OUTSIDE);
        Due.due("time -1", x.effect(0, 0, 0, 0, 0, -1, 0), OUTSIDE);
        Due.due("what 2", x.effect(0, 0, 0, 0, 0, 0, 2), OUTSIDE);
        Due.due("kind 2", x.effect(0, 2, 0, 0, 0, 0, 0), OUTSIDE);
        Due.due("place 11", x.effect(0, 1, 11, 0, 0, 0, 0), OUTSIDE);
        Due.due("bridge 1", x.effect(1, 0, 0, 0, 0, 99, 0), UNKNOWN);
        Due.due("support 2", x.effect(0, 0, 2, 0, 9, 99, 9), UNKNOWN);
        Due.due("train 1 is ahead of kind 2", x.effect(0, 2, 0, 1, 0, 0, 0), UNKNOWN);
        Due.due("train -1", x.effect(0, 0, 0, NONE, 0, 0, 0), UNKNOWN);
    }

    private static void worst(RollingLoads x, int b, int kind, int at, int t, int end, long... want) {
        for (int what = 0; what < 4; what++) {
            Due.due("worst " + b + " " + kind + " " + at + " " + t + " end " + end + " what " + what,
                    x.worst(b, kind, at, t, end, what), want[what]);
        }
    }

    private static void worsts() {
        RollingLoads x = threeAxles();
        worst(x, 0, 0, 0, 0, 0, 43, 1, 0, 7);
        worst(x, 0, 0, 0, 0, 1, 0, 1, 0, 17);
        worst(x, 0, 0, 1, 0, 0, 43, 1, 1, 10);
        worst(x, 0, 1, 0, 0, 0, 0, 1, 0, 0);
        worst(x, 0, 1, 0, 0, 1, 0, 1, 0, 0);
        // One axle is the same either way, and way 0 is told.
        x.train(9);
        worst(x, 0, 1, 4, 1, 0, 108, 5, 0, 4);
        worst(x, 0, 1, 4, 1, 1, 0, 1, 0, 0);
        Due.due("end 2", x.worst(0, 0, 0, 0, 2, 0), OUTSIDE);
        Due.due("end -1", x.worst(0, 0, 0, 0, -1, 0), OUTSIDE);
        Due.due("what 4", x.worst(0, 0, 0, 0, 0, 4), OUTSIDE);
        Due.due("what -1", x.worst(0, 0, 0, 0, 0, -1), OUTSIDE);
        Due.due("kind 2", x.worst(0, 2, 0, 0, 0, 0), OUTSIDE);
        Due.due("place 11", x.worst(0, 1, 11, 0, 0, 0), OUTSIDE);
        Due.due("bridge 1", x.worst(1, 0, 0, 0, 9, 9), UNKNOWN);
        Due.due("support 2", x.worst(0, 0, 2, 0, 9, 9), UNKNOWN);
        Due.due("train 2", x.worst(0, 2, 0, 2, 9, 9), UNKNOWN);
    }

    /** Where all effects are on one side of 0, the other end is 0, without a way and a time. */
    private static void allOnOneSide() {
        RollingLoads x = new RollingLoads();
        // The moment at 6, between supports at 5 and 7, is above 0 for a load at 6 alone, and then
        // the other axle, 3 away, outweighs it.
        x.bridge(12, Due.bits(5, 7), 0);
        x.train(8);
        x.axle(0, 3, 8);
        worst(x, 0, 1, 6, 0, 0, 0, 1, NONE, NONE);
        worst(x, 0, 1, 6, 0, 1, -28, 1, 0, 3);
        // The same for the support at 5 of a bridge with a hinge at 8, with above and below changed.
        x.bridge(16, Due.bits(5, 7, 9), Due.bits(8));
        worst(x, 1, 0, 0, 0, 1, 0, 1, NONE, NONE);
        worst(x, 1, 0, 0, 0, 0, 44, 1, 0, 3);
        // The least sum of two axles of 1 is a half of 1, and that is above 0 as well.
        x.train(1);
        x.axle(1, 3, 1);
        worst(x, 0, 1, 6, 1, 0, 0, 1, NONE, NONE);
        worst(x, 1, 0, 0, 1, 1, 0, 1, NONE, NONE);
        // One axle alone stands at 5, 6 and 7 too: 0 comes first at 5, and 6 is above it.
        x.train(8);
        worst(x, 0, 1, 6, 2, 0, 4, 1, 0, 6);
        worst(x, 1, 0, 0, 2, 1, -4, 1, 0, 8);
        // A train of which nothing is seen at the support's own end is 0 at a time, not without one.
        x.bridge(4, Due.bits(0, 4), 0);
        worst(x, 2, 0, 0, 2, 1, 0, 1, 0, 4);
        worst(x, 2, 0, 1, 2, 1, 0, 1, 0, 0);
    }

    /** Way 1 is told only if it is truly beyond way 0. */
    private static void waysAlike() {
        RollingLoads x = new RollingLoads();
        x.bridge(12, Due.bits(0, 12), 0);
        x.train(10);
        x.axle(0, 4, 10);
        worst(x, 0, 1, 6, 0, 0, 40, 1, 0, 6);
        x.train(10);
        x.axle(1, 4, 30);
        worst(x, 0, 1, 3, 1, 0, 80, 1, 0, 7);
        worst(x, 0, 1, 9, 1, 0, 80, 1, 1, 9);
    }

    public static void main(String[] args) {
        trains();
        axles();
        effects();
        worsts();
        allOnOneSide();
        waysAlike();
        Due.end();
    }
}
