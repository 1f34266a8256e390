import java.util.Arrays;

/**
 * Loads that roll over bridges of beams with hinges; ../shared/DOC.md says what each call answers.
 *
 * All fractions of one bridge are held as upper numbers over that bridge's one lower number, so that
 * they add and compare as whole numbers; only an answer is brought to least terms. A bridge's lower
 * number is a product of at most four lengths that lie side by side on it (at most 15^4), which
 * keeps every upper number here far inside a long.
 */
public final class RollingLoads {
    public static final int NONE = -1, UNKNOWN = -1001, OUTSIDE = -1002, NOT = -1003, FULL = -1004;

    private static final int MAX_BRIDGES = 6;
    private static final int MIN_LENGTH = 2;
    private static final int MAX_LENGTH = 60;
    private static final int MIN_SUPPORTS = 2;
    private static final int MAX_SUPPORTS = 5;
    private static final int MAX_TRAINS = 8;
    private static final int MAX_AXLES = 8;
    private static final int MAX_WEIGHT = 200;
    private static final int MAX_GAP = 20;
    private static final int MAX_CHECKS = 5;
    private static final int MAX_LIMIT = 100000;
    private static final int MAX_POSTED = 300;
    private static final int MAX_SPREAD = 20;
    private static final int MAX_TRAFFIC = 1000;
    private static final int MAX_ROADS = 24;
    private static final int MAX_MILES = 500;
    private static final int TOWNS = 10;
    /** The last thing to ask of a route: its tenth road, one more than a way through all towns has. */
    private static final int MAX_ROUTE_WHAT = 11;
    /** Spreading makes every gap longer, so the longest roll is that of the widest spread. */
    private static final int MAX_TIMES = MAX_LENGTH + (MAX_AXLES - 1) * (MAX_GAP + MAX_SPREAD) + 1;

    private static final int SHAKE = 0;
    private static final int LANES = 1;
    private static final int SHARE = 2;
    /** By rule. */
    private static final int[] RULE_LEAST = {0, 1, 0};
    private static final int[] RULE_MOST = {60, 4, 100};

    private static final int REACTION = 0;
    private static final int MOMENT = 1;
    private static final int FREE = 0;
    private static final int CRAWLING = 2;
    private static final int GREATEST = 0;
    private static final int LEAST = 1;

    private final Bridge[] bridges = new Bridge[MAX_BRIDGES];
    private int bridgeCount = 0;
    private final Train[] trains = new Train[MAX_TRAINS];
    private int trainCount = 0;
    private int usualTrain = NONE;
    private final Roads roads = new Roads();

    // What follows is room that calls use again; no call reads what an earlier one left in it.
    private final Solver solver = new Solver();
    private final Line line = new Line();
    private final Sweep sweep = new Sweep();
    private final Extremes extremes = new Extremes();
    private final Inspector inspector = new Inspector();
    private final Turns turns = new Turns();
    private final Train trial = new Train();
    private final int[] unmetOfBridge = new int[MAX_BRIDGES];

    public RollingLoads() {
    }

    // ---- bridges

    public int bridge(int length, long supports, long hinges) {
        if (!wellFormed(length, supports, hinges)) {
            return OUTSIDE;
        }
        int[] supportPlaces = placesOf(supports);
        int[] hingePlaces = placesOf(hinges);
        if (!solver.solve(length, supportPlaces, hingePlaces)) {
            return NOT;
        }
        if (bridgeCount >= MAX_BRIDGES) {
            return FULL;
        }
        bridges[bridgeCount] = new Bridge(length, supportPlaces, hingePlaces.length, solver);
        bridgeCount++;
        return bridgeCount - 1;
    }

    public int told(int b, int what) {
        Bridge bridge = bridgeAt(b);
        if (bridge == null) {
            return UNKNOWN;
        }
        switch (what) {
            case 0: return bridge.length;
            case 1: return bridge.supports.length;
            case 2: return bridge.hingeCount;
            case 3: return bridge.checkCount;
            case 4: return bridge.rules[SHAKE];
            case 5: return bridge.rules[LANES];
            case 6: return bridge.rules[SHARE];
            default: return OUTSIDE;
        }
    }

    public long influence(int b, int kind, int at, int a, int what) {
        Bridge bridge = bridgeAt(b);
        if (bridge == null || bridge.lacksSupport(kind, at)) {
            return UNKNOWN;
        }
        if (!bridge.hasResponse(kind, at) || !within(a, 0, bridge.length) || !within(what, 0, 1)) {
            return OUTSIDE;
        }
        line.draw(bridge, kind, at);
        return partOf(line.uppers[a], line.lower, what);
    }

    public int rule(int b, int what, int v) {
        Bridge bridge = bridgeAt(b);
        if (bridge == null) {
            return UNKNOWN;
        }
        if (!within(what, SHAKE, SHARE) || !within(v, RULE_LEAST[what], RULE_MOST[what])) {
            return OUTSIDE;
        }
        int was = bridge.rules[what];
        bridge.rules[what] = v;
        return was;
    }

    // ---- trains

    public int train(int weight) {
        if (!within(weight, 1, MAX_WEIGHT)) {
            return OUTSIDE;
        }
        if (trainCount >= MAX_TRAINS) {
            return FULL;
        }
        Train made = new Train();
        made.couple(0, weight);
        trains[trainCount] = made;
        trainCount++;
        return trainCount - 1;
    }

    public int axle(int t, int gap, int weight) {
        Train train = trainAt(t);
        if (train == null) {
            return UNKNOWN;
        }
        if (!within(gap, 1, MAX_GAP) || !within(weight, 1, MAX_WEIGHT)) {
            return OUTSIDE;
        }
        if (!train.couple(gap, weight)) {
            return FULL;
        }
        return train.axleCount;
    }

    public int axles(int t, int k, int what) {
        Train train = trainAt(t);
        if (train == null) {
            return UNKNOWN;
        }
        if (!within(what, 0, 1)) {
            return OUTSIDE;
        }
        if (k == NONE) {
            return what == 0 ? train.axleCount : train.allGaps();
        }
        if (!within(k, 0, train.axleCount - 1)) {
            return NONE;
        }
        return what == 0 ? train.weights[k] : train.gaps[k];
    }

    public long effect(int b, int kind, int at, int t, int way, int time, int what) {
        Bridge bridge = bridgeAt(b);
        Train train = trainAt(t);
        if (bridge == null || bridge.lacksSupport(kind, at) || train == null) {
            return UNKNOWN;
        }
        if (!bridge.hasResponse(kind, at) || !within(way, 0, 1)
                || !within(time, 0, bridge.length + train.allGaps()) || !within(what, 0, 1)) {
            return OUTSIDE;
        }
        line.draw(bridge, kind, at);
        return partOf(line.effectOf(train, way, time), line.lower, what);
    }

    public long worst(int b, int kind, int at, int t, int end, int what) {
        Bridge bridge = bridgeAt(b);
        Train train = trainAt(t);
        if (bridge == null || bridge.lacksSupport(kind, at) || train == null) {
            return UNKNOWN;
        }
        if (!bridge.hasResponse(kind, at) || !within(end, GREATEST, LEAST) || !within(what, 0, 3)) {
            return OUTSIDE;
        }
        line.draw(bridge, kind, at);
        extremes.find(line, train, sweep);
        if (what == 2) {
            return extremes.ways[end];
        }
        if (what == 3) {
            return extremes.times[end];
        }
        return partOf(extremes.uppers[end], line.lower, what);
    }

    // ---- checks

    public int check(int b, int kind, int at, int high, int low) {
        Bridge bridge = bridgeAt(b);
        if (bridge == null || bridge.lacksSupport(kind, at)) {
            return UNKNOWN;
        }
        if (!bridge.hasResponse(kind, at) || !limitsHold(high, low)) {
            return OUTSIDE;
        }
        if (bridge.checkCount >= MAX_CHECKS) {
            return FULL;
        }
        Check made = new Check(high, low);
        made.line.draw(bridge, kind, at);
        bridge.checks[bridge.checkCount] = made;
        bridge.checkCount++;
        return bridge.checkCount - 1;
    }

    public int limit(int b, int c, int high, int low) {
        Bridge bridge = bridgeAt(b);
        Check check = bridge == null ? null : bridge.checkAt(c);
        if (check == null) {
            return UNKNOWN;
        }
        if (!limitsHold(high, low)) {
            return OUTSIDE;
        }
        check.high = high;
        check.low = low;
        return 1;
    }

    public int usual(int t) {
        if (t != NONE && trainAt(t) == null) {
            return UNKNOWN;
        }
        int was = usualTrain;
        usualTrain = t;
        return was;
    }

    public long total(int b, int c, int t, int mode, int end, int what) {
        Bridge bridge = bridgeAt(b);
        Check check = bridge == null ? null : bridge.checkAt(c);
        Train train = trainAt(t);
        if (bridge == null || check == null || train == null) {
            return UNKNOWN;
        }
        if (!within(mode, FREE, CRAWLING) || !within(end, GREATEST, LEAST) || !within(what, 0, 1)) {
            return OUTSIDE;
        }
        inspector.prepare(bridge, trainAt(usualTrain), mode);
        extremes.find(check.line, train, sweep);
        return partOf(inspector.totalOf(c, end, extremes.uppers[end]), check.totalLower(), what);
    }

    public int fails(int b, int t, int mode) {
        Bridge bridge = bridgeAt(b);
        Train train = trainAt(t);
        if (bridge == null || train == null) {
            return UNKNOWN;
        }
        if (!within(mode, FREE, CRAWLING)) {
            return OUTSIDE;
        }
        inspector.prepare(bridge, trainAt(usualTrain), mode);
        return inspector.firstUnmet(bridge, train);
    }

    public int posted(int b, int t) {
        Bridge bridge = bridgeAt(b);
        Train train = trainAt(t);
        if (bridge == null || train == null) {
            return UNKNOWN;
        }
        inspector.prepare(bridge, trainAt(usualTrain), FREE);
        // Without any weight both ends are nearest to 0: what fails then fails always.
        trial.copyWeighing(train, 0);
        if (!inspector.allMet(bridge, trial)) {
            return NONE;
        }
        // Cut weights do not all grow at once, so a heavier train may meet what a lighter one fails:
        // every p is tried, from above.
        for (int p = MAX_POSTED; p > 0; p--) {
            trial.copyWeighing(train, p);
            if (inspector.allMet(bridge, trial)) {
                return p;
            }
        }
        return 0;
    }

    public int spread(int b, int t, int mode) {
        Bridge bridge = bridgeAt(b);
        Train train = trainAt(t);
        if (bridge == null || train == null) {
            return UNKNOWN;
        }
        if (!within(mode, FREE, CRAWLING)) {
            return OUTSIDE;
        }
        inspector.prepare(bridge, trainAt(usualTrain), mode);
        for (int k = 0; k <= MAX_SPREAD; k++) {
            trial.copySpread(train, k);
            if (inspector.allMet(bridge, trial)) {
                return k;
            }
        }
        return NONE;
    }

    // ---- roads

    public int road(int from, int to, int miles, int b) {
        if (!isTown(from) || !isTown(to) || (b != NONE && bridgeAt(b) == null)) {
            return UNKNOWN;
        }
        if (!within(miles, 1, MAX_MILES) || from == to) {
            return OUTSIDE;
        }
        if (!roads.lay(from, to, miles, b)) {
            return FULL;
        }
        return roads.roadCount - 1;
    }

    public int route(int t, int mode, int from, int to, int what) {
        Train train = trainAt(t);
        if (train == null || !isTown(from) || !isTown(to)) {
            return UNKNOWN;
        }
        if (!within(mode, FREE, CRAWLING) || !within(what, 0, MAX_ROUTE_WHAT) || from == to) {
            return OUTSIDE;
        }
        closeRoadsUnmet(train, mode);
        if (!roads.search(from, to)) {
            return NONE;
        }
        if (what == 0) {
            return roads.wayMiles;
        }
        if (what == 1) {
            return roads.wayCount;
        }
        return roads.wayRoad(what - 2);
    }

    public int why(int t, int mode, int from, int to) {
        Train train = trainAt(t);
        if (train == null || !isTown(from) || !isTown(to)) {
            return UNKNOWN;
        }
        if (!within(mode, FREE, CRAWLING) || from == to) {
            return OUTSIDE;
        }
        closeRoadsUnmet(train, mode);
        if (roads.search(from, to)) {
            return NONE;
        }
        roads.openAll();
        if (!roads.search(from, to)) {
            return NONE;
        }
        return firstUnmetOnWay();
    }

    // ---- turns

    public long wear(int b, int kind, int at, int t, int what) {
        Bridge bridge = bridgeAt(b);
        Train train = trainAt(t);
        if (bridge == null || bridge.lacksSupport(kind, at) || train == null) {
            return UNKNOWN;
        }
        if (!bridge.hasResponse(kind, at) || !within(what, 0, 2)) {
            return OUTSIDE;
        }
        line.draw(bridge, kind, at);
        sweep.roll(line, train, 0);
        turns.take(sweep, line);
        if (what == 0) {
            return turns.wearSum;
        }
        return what == 1 ? turns.wholeTurns : turns.halfTurns;
    }

    public int traffic(int t, int n) {
        Train train = trainAt(t);
        if (train == null) {
            return UNKNOWN;
        }
        if (!within(n, 0, MAX_TRAFFIC)) {
            return OUTSIDE;
        }
        int was = train.runs;
        train.runs = n;
        return was;
    }

    public long worn(int b, int kind, int at) {
        Bridge bridge = bridgeAt(b);
        if (bridge == null || bridge.lacksSupport(kind, at)) {
            return UNKNOWN;
        }
        if (!bridge.hasResponse(kind, at)) {
            return OUTSIDE;
        }
        line.draw(bridge, kind, at);
        long sum = 0;
        for (int t = 0; t < trainCount; t++) {
            Train train = trainAt(t);
            if (train != null && train.runs > 0) {
                sweep.roll(line, train, 0);
                turns.take(sweep, line);
                sum += train.runs * turns.wearSum;
            }
        }
        return sum;
    }

    public int count(int what) {
        switch (what) {
            case 0: return bridgeCount;
            case 1: return trainCount;
            case 2: return roads.roadCount;
            case 3: return allChecks();
            case 4: return usualTrain;
            case 5: return allTraffic();
            default: return OUTSIDE;
        }
    }

    // ---- what the calls share

    private static boolean within(int v, int least, int greatest) {
        return v >= least && v <= greatest;
    }

    private static boolean isTown(int town) {
        return within(town, 0, TOWNS - 1);
    }

    private static boolean limitsHold(int high, int low) {
        return within(high, 0, MAX_LIMIT) && within(low, -MAX_LIMIT, 0);
    }

    private static boolean wellFormed(int length, long supports, long hinges) {
        if (!within(length, MIN_LENGTH, MAX_LENGTH)) {
            return false;
        }
        long all = (2L << length) - 1;
        long inner = (1L << length) - 2;
        int supportCount = Long.bitCount(supports);
        return (supports & ~all) == 0
                && within(supportCount, MIN_SUPPORTS, MAX_SUPPORTS)
                && (hinges & ~inner) == 0
                && (hinges & supports) == 0
                && Long.bitCount(hinges) == supportCount - 2;
    }

    private static int[] placesOf(long bits) {
        int[] places = new int[Long.bitCount(bits)];
        int found = 0;
        for (int p = 0; p <= MAX_LENGTH && found < places.length; p++) {
            if ((bits >>> p & 1L) != 0) {
                places[found] = p;
                found++;
            }
        }
        return places;
    }

    private Bridge bridgeAt(int b) {
        return within(b, 0, bridgeCount - 1) ? bridges[b] : null;
    }

    private Train trainAt(int t) {
        return within(t, 0, trainCount - 1) ? trains[t] : null;
    }

    /** The upper (what = 0) or lower number of a fraction, in least terms. */
    private static long partOf(long upper, long lower, int what) {
        long common = commonDivisor(Math.abs(upper), lower);
        if (common == 0) {
            return 0;
        }
        return (what == 0 ? upper : lower) / common;
    }

    private static long commonDivisor(long x, long y) {
        long greater = x;
        long rest = y;
        // Two longs never need a hundred steps: each two of them at least halve the greater one.
        for (int step = 0; step < 200 && rest != 0; step++) {
            long next = greater % rest;
            greater = rest;
            rest = next;
        }
        return greater;
    }

    private void closeRoadsUnmet(Train train, int mode) {
        roads.openAll();
        for (int b = 0; b < bridgeCount; b++) {
            unmetOfBridge[b] = NONE;
            Bridge bridge = bridgeAt(b);
            if (bridge != null) {
                inspector.prepare(bridge, trainAt(usualTrain), mode);
                unmetOfBridge[b] = inspector.firstUnmet(bridge, train);
            }
            if (unmetOfBridge[b] != NONE) {
                roads.closeOver(b);
            }
        }
    }

    private int firstUnmetOnWay() {
        for (int i = 0; i < roads.wayCount; i++) {
            int b = roads.bridgeOf(roads.wayRoad(i));
            if (within(b, 0, bridgeCount - 1) && unmetOfBridge[b] != NONE) {
                return 10 * b + unmetOfBridge[b];
            }
        }
        return NONE;
    }

    private int allChecks() {
        int sum = 0;
        for (int b = 0; b < bridgeCount; b++) {
            Bridge bridge = bridgeAt(b);
            sum += bridge == null ? 0 : bridge.checkCount;
        }
        return sum;
    }

    private int allTraffic() {
        int sum = 0;
        for (int t = 0; t < trainCount; t++) {
            Train train = trainAt(t);
            sum += train == null ? 0 : train.runs;
        }
        return sum;
    }

    /** The reactions of a bridge to a load of 1 at each place, as upper numbers over one lower number. */
    private static final class Solver {
        /** A row is one condition: a factor for each support, then its right side for each place. */
        private final long[][] rows = new long[MAX_SUPPORTS][MAX_SUPPORTS + MAX_LENGTH + 1];
        private int size = 0;
        private int width = 0;

        /** False, if the reactions are not told by the conditions. */
        boolean solve(int length, int[] supports, int[] hinges) {
            size = Math.min(supports.length, MAX_SUPPORTS);
            width = size + Math.min(length, MAX_LENGTH) + 1;
            Arrays.fill(rows[0], 0, width, 1L);
            writeCondition(1, length, supports);
            for (int j = 0; j < hinges.length && j + 2 < size; j++) {
                writeCondition(j + 2, hinges[j], supports);
            }
            return eliminate();
        }

        private void writeCondition(int row, int h, int[] supports) {
            for (int i = 0; i < size; i++) {
                rows[row][i] = Math.max(0, h - supports[i]);
            }
            for (int j = size; j < width; j++) {
                rows[row][j] = Math.max(0, h - (j - size));
            }
        }

        /**
         * Elimination without fractions: after each step all numbers are minors of the conditions,
         * so dividing by the pivot before is exact, and in the end the diagonal holds one number.
         */
        private boolean eliminate() {
            long prior = 1;
            for (int k = 0; k < size; k++) {
                if (!bringPivot(k)) {
                    return false;
                }
                for (int i = 0; i < size; i++) {
                    if (i != k) {
                        clear(i, k, prior);
                    }
                }
                prior = rows[k][k];
            }
            return true;
        }

        private boolean bringPivot(int k) {
            for (int i = k; i < size; i++) {
                if (rows[i][k] != 0) {
                    long[] found = rows[i];
                    rows[i] = rows[k];
                    rows[k] = found;
                    return true;
                }
            }
            return false;
        }

        private void clear(int i, int k, long prior) {
            if (prior == 0) {
                return;
            }
            long pivot = rows[k][k];
            long factor = rows[i][k];
            for (int j = 0; j < width; j++) {
                rows[i][j] = (pivot * rows[i][j] - factor * rows[k][j]) / prior;
            }
        }

        long lower() {
            return Math.abs(rows[0][0]);
        }

        long upper(int support, int a) {
            return rows[0][0] < 0 ? -rows[support][size + a] : rows[support][size + a];
        }
    }

    private static final class Bridge {
        private final int length;
        private final int[] supports;
        private final int hingeCount;
        private final long lower;
        /** By support and place of the load. */
        private final long[][] reactions;
        /** Shake, lanes, share. */
        private final int[] rules = {30, 1, 50};
        private final Check[] checks = new Check[MAX_CHECKS];
        private int checkCount = 0;

        Bridge(int length, int[] supports, int hingeCount, Solver solved) {
            this.length = length;
            this.supports = supports;
            this.hingeCount = hingeCount;
            this.lower = solved.lower();
            this.reactions = new long[supports.length][length + 1];
            for (int i = 0; i < supports.length; i++) {
                for (int a = 0; a <= length; a++) {
                    reactions[i][a] = solved.upper(i, a);
                }
            }
        }

        boolean lacksSupport(int kind, int at) {
            return kind == REACTION && !within(at, 0, supports.length - 1);
        }

        boolean hasResponse(int kind, int at) {
            return kind == REACTION ? !lacksSupport(kind, at) : kind == MOMENT && within(at, 0, length);
        }

        Check checkAt(int c) {
            return within(c, 0, checkCount - 1) ? checks[c] : null;
        }

        long momentUpper(int x, int a) {
            long sum = -lower * Math.max(0, x - a);
            for (int i = 0; i < supports.length; i++) {
                sum += reactions[i][a] * Math.max(0, x - supports[i]);
            }
            return sum;
        }
    }

    /** The influences of one response, for a load at each place of its bridge. */
    private static final class Line {
        private final long[] uppers = new long[MAX_LENGTH + 1];
        private long lower = 1;
        private int length = 0;

        void draw(Bridge bridge, int kind, int at) {
            if (!bridge.hasResponse(kind, at)) {
                return;
            }
            length = bridge.length;
            lower = bridge.lower;
            for (int a = 0; a <= length; a++) {
                uppers[a] = kind == REACTION ? bridge.reactions[at][a] : bridge.momentUpper(at, a);
            }
        }

        long effectOf(Train train, int way, int time) {
            int allGaps = train.allGaps();
            int behindFirst = 0;
            long sum = 0;
            for (int k = 0; k < train.axleCount; k++) {
                behindFirst += train.gaps[k];
                int place = time - (way == 0 ? behindFirst : allGaps - behindFirst);
                if (within(place, 0, length)) {
                    sum += train.weights[k] * uppers[place];
                }
            }
            return sum;
        }

        long cut(long upper) {
            return lower == 0 ? 0 : upper / lower;
        }
    }

    private static final class Check {
        private final Line line = new Line();
        private int high;
        private int low;

        Check(int high, int low) {
            this.high = high;
            this.low = low;
        }

        /** Totals have two hundredths in them, of the share and of the shake. */
        long totalLower() {
            return line.lower * 100 * 100;
        }

        boolean allows(int end, long total) {
            return end == GREATEST ? total <= high * totalLower() : total >= low * totalLower();
        }
    }

    private static final class Train {
        private final int[] weights = new int[MAX_AXLES];
        private final int[] gaps = new int[MAX_AXLES];
        private int axleCount = 0;
        private int runs = 0;

        boolean couple(int gap, int weight) {
            if (axleCount >= MAX_AXLES) {
                return false;
            }
            gaps[axleCount] = gap;
            weights[axleCount] = weight;
            axleCount++;
            return true;
        }

        int allGaps() {
            int sum = 0;
            for (int k = 0; k < axleCount; k++) {
                sum += gaps[k];
            }
            return sum;
        }

        void copyWeighing(Train other, int hundredths) {
            axleCount = other.axleCount;
            for (int k = 0; k < axleCount; k++) {
                gaps[k] = other.gaps[k];
                weights[k] = other.weights[k] * hundredths / 100;
            }
        }

        void copySpread(Train other, int more) {
            axleCount = other.axleCount;
            for (int k = 0; k < axleCount; k++) {
                gaps[k] = k == 0 ? 0 : other.gaps[k] + more;
                weights[k] = other.weights[k];
            }
        }
    }

    /** The effects of one train for one response, at all times of one way. */
    private static final class Sweep {
        private final long[] effects = new long[MAX_TIMES];
        private int times = 0;

        void roll(Line line, Train train, int way) {
            int allGaps = train.allGaps();
            times = Math.min(line.length + allGaps + 1, MAX_TIMES);
            Arrays.fill(effects, 0, times, 0L);
            int behindFirst = 0;
            for (int k = 0; k < train.axleCount; k++) {
                behindFirst += train.gaps[k];
                addAxle(line, train.weights[k], way == 0 ? behindFirst : allGaps - behindFirst);
            }
        }

        private void addAxle(Line line, long weight, int behind) {
            for (int a = 0; a <= line.length && behind + a < times; a++) {
                effects[behind + a] += weight * line.uppers[a];
            }
        }
    }

    /** The greatest and the least of a train for a response, each with its way and time. */
    private static final class Extremes {
        private final long[] uppers = new long[2];
        private final int[] ways = new int[2];
        private final int[] times = new int[2];

        void find(Line line, Train train, Sweep sweep) {
            for (int way = 0; way < 2; way++) {
                sweep.roll(line, train, way);
                for (int time = 0; time < sweep.times; time++) {
                    long upper = sweep.effects[time];
                    boolean first = way == 0 && time == 0;
                    if (first || upper > uppers[GREATEST]) {
                        set(GREATEST, upper, way, time);
                    }
                    if (first || upper < uppers[LEAST]) {
                        set(LEAST, upper, way, time);
                    }
                }
            }
            if (uppers[GREATEST] < 0) {
                set(GREATEST, 0, NONE, NONE);
            }
            if (uppers[LEAST] > 0) {
                set(LEAST, 0, NONE, NONE);
            }
        }

        private void set(int end, long upper, int way, int time) {
            uppers[end] = upper;
            ways[end] = way;
            times[end] = time;
        }
    }

    /** The checks of one bridge against trains, in one mode and with the same other lanes. */
    private static final class Inspector {
        private final Sweep sweep = new Sweep();
        private final Extremes extremes = new Extremes();
        /** What counts of the other lanes, in hundredths, by end and check. */
        private final long[][] others = new long[2][MAX_CHECKS];
        private int shaken = 100;
        /** The check that failed last (NONE: none has), with the end, way and time where it did. */
        private int failedCheck = NONE;
        private int failedEnd = GREATEST;
        private int failedWay = NONE;
        private int failedTime = NONE;

        void prepare(Bridge bridge, Train usual, int mode) {
            failedCheck = NONE;
            shaken = mode == CRAWLING ? 100 : 100 + bridge.rules[SHAKE];
            boolean othersCount = mode == FREE && usual != null;
            long hundredths = othersCount ? (bridge.rules[LANES] - 1) * bridge.rules[SHARE] : 0;
            for (int c = 0; c < MAX_CHECKS; c++) {
                others[GREATEST][c] = 0;
                others[LEAST][c] = 0;
                Check check = bridge.checkAt(c);
                if (check != null && hundredths != 0) {
                    extremes.find(check.line, usual, sweep);
                    others[GREATEST][c] = hundredths * extremes.uppers[GREATEST];
                    others[LEAST][c] = hundredths * extremes.uppers[LEAST];
                }
            }
        }

        /** Over the check's totalLower. */
        long totalOf(int c, int end, long upper) {
            return (100 * upper + others[end][c]) * shaken;
        }

        int firstUnmet(Bridge bridge, Train train) {
            for (int c = 0; c < bridge.checkCount; c++) {
                Check check = bridge.checkAt(c);
                if (check != null && !isMet(c, check, train)) {
                    return c;
                }
            }
            return NONE;
        }

        /**
         * For trains that are tried one after the other: where the one before failed, the next
         * mostly fails too, and one effect is found much sooner than the greatest of all.
         */
        boolean allMet(Bridge bridge, Train train) {
            return !failsAsBefore(bridge, train) && firstUnmet(bridge, train) == NONE;
        }

        private boolean failsAsBefore(Bridge bridge, Train train) {
            Check check = bridge.checkAt(failedCheck);
            if (check == null || failedWay == NONE) {
                return false;
            }
            long upper = check.line.effectOf(train, failedWay, failedTime);
            return !check.allows(failedEnd, totalOf(failedCheck, failedEnd, upper));
        }

        private boolean isMet(int c, Check check, Train train) {
            extremes.find(check.line, train, sweep);
            for (int end = GREATEST; end <= LEAST; end++) {
                if (!check.allows(end, totalOf(c, end, extremes.uppers[end]))) {
                    failedCheck = c;
                    failedEnd = end;
                    failedWay = extremes.ways[end];
                    failedTime = extremes.times[end];
                    return false;
                }
            }
            return true;
        }
    }

    private static final class Roads {
        /** A cost is miles times this and the number of roads, so that the least has both least in turn. */
        private static final int MILE = 1000;
        private static final int FAR = 1000000000;

        private final int[] froms = new int[MAX_ROADS];
        private final int[] tos = new int[MAX_ROADS];
        private final int[] miles = new int[MAX_ROADS];
        private final int[] overs = new int[MAX_ROADS];
        private final boolean[] closed = new boolean[MAX_ROADS];
        private int roadCount = 0;
        /** By town: the least cost from it to the goal of the search. */
        private final int[] costs = new int[TOWNS];
        private final int[] way = new int[TOWNS];
        private int wayCount = 0;
        private int wayMiles = 0;

        boolean lay(int from, int to, int length, int bridge) {
            if (roadCount >= MAX_ROADS) {
                return false;
            }
            froms[roadCount] = from;
            tos[roadCount] = to;
            miles[roadCount] = length;
            overs[roadCount] = bridge;
            roadCount++;
            return true;
        }

        void openAll() {
            for (int r = 0; r < roadCount; r++) {
                closed[r] = false;
            }
        }

        void closeOver(int bridge) {
            for (int r = 0; r < roadCount; r++) {
                if (overs[r] == bridge) {
                    closed[r] = true;
                }
            }
        }

        int bridgeOf(int road) {
            return within(road, 0, roadCount - 1) ? overs[road] : NONE;
        }

        int wayRoad(int i) {
            return within(i, 0, wayCount - 1) ? way[i] : NONE;
        }

        /** Finds the route over roads that are not closed; false, if there is none. */
        boolean search(int from, int to) {
            spreadCosts(to);
            wayCount = 0;
            wayMiles = costs[from] / MILE;
            if (costs[from] >= FAR) {
                return false;
            }
            // All least ways on from a town have as many roads, so the least road first is the first way.
            int town = from;
            for (int i = 0; i < TOWNS && town != to; i++) {
                int road = firstRoadOn(town);
                if (road == NONE) {
                    return false;
                }
                way[i] = road;
                wayCount++;
                town = otherEnd(road, town);
            }
            return true;
        }

        private void spreadCosts(int goal) {
            Arrays.fill(costs, FAR);
            costs[goal] = 0;
            for (int round = 1; round < TOWNS; round++) {
                for (int r = 0; r < roadCount; r++) {
                    if (!closed[r]) {
                        int from = froms[r];
                        int to = tos[r];
                        costs[from] = Math.min(costs[from], costs[to] + costOf(r));
                        costs[to] = Math.min(costs[to], costs[from] + costOf(r));
                    }
                }
            }
        }

        private int firstRoadOn(int town) {
            for (int r = 0; r < roadCount; r++) {
                boolean leaves = froms[r] == town || tos[r] == town;
                if (leaves && !closed[r] && costs[otherEnd(r, town)] + costOf(r) == costs[town]) {
                    return r;
                }
            }
            return NONE;
        }

        private int costOf(int road) {
            return miles[road] * MILE + 1;
        }

        private int otherEnd(int road, int town) {
            return froms[road] == town ? tos[road] : froms[road];
        }
    }

    /** The turns of a train's coming and going, and how much they wear. */
    private static final class Turns {
        private final long[] row = new long[MAX_TIMES + 2];
        private int size = 0;
        private int wholeTurns = 0;
        private int halfTurns = 0;
        private long wearSum = 0;

        void take(Sweep sweep, Line line) {
            wholeTurns = 0;
            halfTurns = 0;
            wearSum = 0;
            size = 0;
            push(0);
            for (int time = 0; time < sweep.times; time++) {
                push(sweep.effects[time]);
            }
            push(0);
            takeWholeTurns(line);
            takeHalfTurns(line);
        }

        /** Drops at once what no longer turns, so that the row never holds but turning points. */
        private void push(long effect) {
            while (size >= 2 && liesBetween(row[size - 1], row[size - 2], effect)) {
                size--;
            }
            if (size < row.length) {
                row[size] = effect;
                size++;
            }
        }

        private static boolean liesBetween(long v, long x, long y) {
            return v >= Math.min(x, y) && v <= Math.max(x, y);
        }

        /**
         * What stands left of the number that comes in holds no whole turn any more, so the first
         * place from the left is always among the last four.
         */
        private void takeWholeTurns(Line line) {
            int kept = 0;
            for (int i = 0; i < size; i++) {
                row[kept] = row[i];
                kept++;
                while (kept >= 4 && innerStepIsLeast(kept - 4)) {
                    wholeTurns++;
                    wearSum += 2 * cube(line.cut(step(kept - 3)));
                    row[kept - 3] = row[kept - 1];
                    kept -= 2;
                }
            }
            size = kept;
        }

        private boolean innerStepIsLeast(int first) {
            long inner = step(first + 1);
            return inner <= step(first) && inner <= step(first + 2);
        }

        private void takeHalfTurns(Line line) {
            for (int i = 0; i + 1 < size; i++) {
                halfTurns++;
                wearSum += cube(line.cut(step(i)));
            }
        }

        private long step(int i) {
            return Math.abs(row[i + 1] - row[i]);
        }

        private static long cube(long v) {
            return v * v * v;
        }
    }
}
