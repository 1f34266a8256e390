import java.util.Random;

/**
 * Random runs of calls, ordinary and wrong ones, each answer held against the Oracle's. What a run picks
 * from is read from the Oracle, so that the object itself gets no more than the 512 calls of the document.
 */
public final class OracleTest {
    private static final int RUNS = 150;
    /** A step makes at most four calls. */
    private static final int LAST_STEP = 512 - 4;
    private static final int[] WILD = {Integer.MIN_VALUE, -100001, -1003, -2, -1, 0, 1, 61, 100001, Integer.MAX_VALUE};

    private final Random random;
    private final int run;
    private final RollingLoads x = new RollingLoads();
    private final Oracle o = new Oracle();
    private final boolean small;
    private int called = 0;

    private OracleTest(int run) {
        this.run = run;
        this.random = new Random(7919L * run + 17);
        this.small = run % 3 != 0;
    }

    /** A number from lo to hi, now and then one beside it or far away. */
    private int pick(int lo, int hi) {
        int dice = random.nextInt(400);
        if (dice < 2) {
            return WILD[random.nextInt(WILD.length)];
        }
        if (dice < 4) {
            return random.nextBoolean() ? lo - 1 : hi + 1;
        }
        return dice < 40 ? (random.nextBoolean() ? lo : hi) : lo + random.nextInt(hi - lo + 1);
    }

    private int pickBridge() {
        return pick(0, Math.max(0, o.count(0) - 1));
    }

    private int pickTrain() {
        return pick(0, Math.max(0, o.count(1) - 1));
    }

    private int pickAt(int b, int kind) {
        int last = kind == 0 ? o.told(b, 1) - 1 : o.told(b, 0);
        return pick(0, Math.max(0, last));
    }

    private void due(String name, long got, long want, long... args) {
        called++;
        if (got != want) {
            StringBuilder call = new StringBuilder("run " + run + ": " + name + "(");
            for (int i = 0; i < args.length; i++) {
                call.append(i == 0 ? "" : ", ").append(args[i]);
            }
            Due.due(call.append(")").toString(), got, want);
        } else {
            Due.due(name, got, want);
        }
    }

    private long bitsOf(int n, int lo, int hi, long not) {
        long bits = 0;
        for (int tries = 0; tries < 1000 && Long.bitCount(bits) < n; tries++) {
            int p = lo + random.nextInt(Math.max(1, hi - lo + 1));
            if ((not >>> p & 1) == 0) {
                bits |= 1L << p;
            }
        }
        return bits;
    }

    private void bridge() {
        int length = small ? pick(2, 24) : pick(2, 60);
        int top = Math.max(2, Math.min(60, length));
        int n = pick(2, Math.min(5, 1 + top / 2));
        long supports = bitsOf(Math.min(8, Math.max(0, n)), 0, top, 0);
        long hinges = bitsOf(Math.min(8, Math.max(0, n - 2)), 1, top - 1, supports);
        if (random.nextInt(30) == 0) {
            supports ^= 1L << random.nextInt(64);
        }
        if (random.nextInt(30) == 0) {
            hinges ^= 1L << random.nextInt(64);
        }
        due("bridge", x.bridge(length, supports, hinges), o.bridge(length, supports, hinges), length, supports, hinges);
    }

    private void trains() {
        int w = pick(1, 200);
        int t = pickTrain();
        int gap = small ? pick(1, 6) : pick(1, 20);
        if (random.nextInt(3) == 0) {
            due("train", x.train(w), o.train(w), w);
        } else {
            due("axle", x.axle(t, gap, w), o.axle(t, gap, w), t, gap, w);
        }
    }

    private void checks() {
        int b = pickBridge();
        int kind = pick(0, 1);
        int at = pickAt(b, kind);
        int scale = random.nextInt(4) == 0 ? 100000 : 4000;
        int high = pick(0, scale);
        int low = -pick(0, scale);
        if (random.nextInt(3) != 0) {
            due("check", x.check(b, kind, at, high, low), o.check(b, kind, at, high, low), b, kind, at, high, low);
        } else {
            int c = pick(0, 4);
            due("limit", x.limit(b, c, high, low), o.limit(b, c, high, low), b, c, high, low);
        }
    }

    private void settings() {
        int b = pickBridge();
        int t = pickTrain();
        int what = pick(0, 2);
        int v = what == 0 ? pick(0, 60) : what == 1 ? pick(1, 4) : pick(0, 100);
        int n = pick(0, 1000);
        int u = pick(-1, o.count(1) - 1 < 0 ? 0 : o.count(1) - 1);
        int q = pick(0, 5);
        due("rule", x.rule(b, what, v), o.rule(b, what, v), b, what, v);
        due("traffic", x.traffic(t, n), o.traffic(t, n), t, n);
        due("usual", x.usual(u), o.usual(u), u);
        due("count", x.count(q), o.count(q), q);
    }

    private void road() {
        int from = pick(0, 9);
        int to = small ? pick(0, 9) : Math.min(9, from + 1 + random.nextInt(3));
        int miles = random.nextBoolean() ? pick(1, 500) : pick(1, 4);
        int b = random.nextInt(3) == 0 ? -1 : pickBridge();
        due("road", x.road(from, to, miles, b), o.road(from, to, miles, b), from, to, miles, b);
    }

    private void askBridge() {
        int b = pickBridge();
        int kind = pick(0, 1);
        int at = pickAt(b, kind);
        int a = pick(0, Math.max(0, o.told(b, 0)));
        int what = pick(0, 1);
        int of = pick(0, 6);
        due("told", x.told(b, of), o.told(b, of), b, of);
        due("influence", x.influence(b, kind, at, a, what), o.influence(b, kind, at, a, what), b, kind, at, a, what);
    }

    private void askTrain() {
        int b = pickBridge();
        int kind = pick(0, 1);
        int at = pickAt(b, kind);
        int t = pickTrain();
        int k = pick(-1, 8);
        int way = pick(0, 1);
        int time = pick(0, Math.max(0, o.told(b, 0) + Math.max(0, o.axles(t, -1, 1))));
        int what = pick(0, 1);
        int end = pick(0, 1);
        int of = pick(0, 3);
        due("axles", x.axles(t, k, what), o.axles(t, k, what), t, k, what);
        due("effect", x.effect(b, kind, at, t, way, time, what), o.effect(b, kind, at, t, way, time, what),
                b, kind, at, t, way, time, what);
        due("worst", x.worst(b, kind, at, t, end, of), o.worst(b, kind, at, t, end, of), b, kind, at, t, end, of);
    }

    private void askChecks() {
        int b = pickBridge();
        int t = pickTrain();
        int c = pick(0, Math.max(0, o.told(b, 3) - 1));
        int mode = pick(0, 2);
        int end = pick(0, 1);
        int what = pick(0, 1);
        due("total", x.total(b, c, t, mode, end, what), o.total(b, c, t, mode, end, what), b, c, t, mode, end, what);
        due("fails", x.fails(b, t, mode), o.fails(b, t, mode), b, t, mode);
        due("spread", x.spread(b, t, mode), o.spread(b, t, mode), b, t, mode);
        if (small && random.nextInt(3) == 0) {
            due("posted", x.posted(b, t), o.posted(b, t), b, t);
        }
    }

    private void askRoads() {
        int t = pickTrain();
        int mode = pick(0, 2);
        int from = pick(0, 9);
        int to = pick(0, 9);
        int what = pick(0, 11);
        due("route", x.route(t, mode, from, to, what), o.route(t, mode, from, to, what), t, mode, from, to, what);
        due("why", x.why(t, mode, from, to), o.why(t, mode, from, to), t, mode, from, to);
    }

    private void askTurns() {
        int b = pickBridge();
        int kind = pick(0, 1);
        int at = pickAt(b, kind);
        int t = pickTrain();
        int what = pick(0, 2);
        due("wear", x.wear(b, kind, at, t, what), o.wear(b, kind, at, t, what), b, kind, at, t, what);
        due("worn", x.worn(b, kind, at), o.worn(b, kind, at), b, kind, at);
    }

    private void call(boolean building) {
        int dice = random.nextInt(building ? 8 : 22);
        switch (dice) {
            case 0: bridge(); break;
            case 1: case 2: trains(); break;
            case 3: checks(); break;
            case 4: settings(); break;
            case 5: case 6: road(); break;
            case 7: case 8: case 9: askBridge(); break;
            case 10: case 11: case 12: askTrain(); break;
            case 13: case 14: case 15: askChecks(); break;
            case 16: case 17: case 18: askRoads(); break;
            default: askTurns(); break;
        }
    }

    /** Fills every table, and calls for one more of each. */
    private void fill() {
        for (int tries = 0; tries < 100 && o.count(0) < 6; tries++) {
            bridge();
        }
        for (int n = 0; n < 9; n++) {
            due("train", x.train(10 + n), o.train(10 + n), 10 + n);
        }
        for (int n = 0; n < 8; n++) {
            for (int t = 0; t < 8; t++) {
                int gap = 1 + random.nextInt(4);
                due("axle", x.axle(t, gap, 30), o.axle(t, gap, 30), t, gap, 30);
            }
        }
        for (int b = 0; b < 6; b++) {
            for (int c = 0; c < 6; c++) {
                int at = random.nextInt(2);
                due("check", x.check(b, 0, at, 300, -200), o.check(b, 0, at, 300, -200), b, 0, at, 300, -200);
            }
        }
        for (int n = 0; n < 40; n++) {
            road();
        }
        bridge();
    }

    public static void main(String[] args) {
        int runs = args.length > 0 ? Integer.parseInt(args[0]) : RUNS;
        for (int run = 0; run < runs && Due.wrongSoFar() < 20; run++) {
            OracleTest test = new OracleTest(run);
            int calls = test.small ? 110 : 45;
            if (run % 25 == 1) {
                test.fill();
                calls = 40;
            }
            for (int i = 0; i < calls && test.called <= LAST_STEP; i++) {
                test.call(i < calls / 2);
            }
            Due.holds("at most 512 calls", test.called <= 512);
        }
        Due.end();
    }
}
