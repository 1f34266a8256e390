import java.math.BigInteger;
import java.util.ArrayList;
import java.util.HashMap;
import java.util.List;
import java.util.Map;

/**
 * The document written down a second time, word for word and without any thought of speed or room,
 * so that OracleTest can hold the class against it.
 */
final class Oracle {
    static final int NONE = -1;
    static final int UNKNOWN = -1001;
    static final int OUTSIDE = -1002;
    static final int NOT = -1003;
    static final int FULL = -1004;

    /** What a train is for one question: its axles from the first on. */
    record Axles(List<Integer> weights, List<Integer> gaps) {
        int allGaps() {
            int sum = 0;
            for (int k = 1; k < gaps.size(); k++) {
                sum += gaps.get(k);
            }
            return sum;
        }

        Axles turned() {
            List<Integer> w = new ArrayList<>();
            List<Integer> g = new ArrayList<>();
            for (int k = weights.size() - 1; k >= 0; k--) {
                w.add(weights.get(k));
                g.add(k == weights.size() - 1 ? 0 : gaps.get(k + 1));
            }
            return new Axles(w, g);
        }
    }

    record Worst(Ratio value, int way, int time) {
    }

    static final class Limit {
        int kind;
        int at;
        int high;
        int low;
    }

    static final class Beam {
        int length;
        List<Integer> supports = new ArrayList<>();
        List<Integer> hinges = new ArrayList<>();
        List<Ratio[]> reactions = new ArrayList<>();
        List<Limit> checks = new ArrayList<>();
        int shake = 30;
        int lanes = 1;
        int share = 50;
        Map<Long, Ratio> influences = new HashMap<>();
    }

    record Road(int from, int to, int miles, int bridge) {
    }

    private final List<Beam> beams = new ArrayList<>();
    private final List<Axles> trains = new ArrayList<>();
    private final List<Integer> traffics = new ArrayList<>();
    private final List<Road> roads = new ArrayList<>();
    private int usual = NONE;

    private boolean noBridge(int b) {
        return b < 0 || b >= beams.size();
    }

    private boolean noTrain(int t) {
        return t < 0 || t >= trains.size();
    }

    private static boolean out(int v, int lo, int hi) {
        return v < lo || v > hi;
    }

    private boolean noSupport(int b, int kind, int at) {
        return noBridge(b) || kind == 0 && out(at, 0, beams.get(b).supports.size() - 1);
    }

    private boolean noResponse(int b, int kind, int at) {
        return out(kind, 0, 1) || kind == 1 && out(at, 0, beams.get(b).length);
    }

    // ---- bridges

    int bridge(int length, long supports, long hinges) {
        if (out(length, 2, 60)) {
            return OUTSIDE;
        }
        Beam beam = new Beam();
        beam.length = length;
        for (int p = 0; p < 64; p++) {
            boolean support = (supports >>> p & 1) == 1;
            boolean hinge = (hinges >>> p & 1) == 1;
            if (support && p > length || hinge && (p < 1 || p > length - 1 || support)) {
                return OUTSIDE;
            }
            if (support) {
                beam.supports.add(p);
            }
            if (hinge) {
                beam.hinges.add(p);
            }
        }
        if (out(beam.supports.size(), 2, 5) || beam.hinges.size() != beam.supports.size() - 2) {
            return OUTSIDE;
        }
        for (int a = 0; a <= length; a++) {
            Ratio[] reactions = reactions(beam, a);
            if (reactions == null) {
                return NOT;
            }
            beam.reactions.add(reactions);
        }
        if (beams.size() == 6) {
            return FULL;
        }
        beams.add(beam);
        return beams.size() - 1;
    }

    private static Ratio[] reactions(Beam beam, int a) {
        int n = beam.supports.size();
        List<Integer> turns = new ArrayList<>(beam.hinges);
        turns.add(beam.length);
        List<Ratio[]> rows = new ArrayList<>();
        Ratio[] all = new Ratio[n + 1];
        for (int i = 0; i <= n; i++) {
            all[i] = Ratio.ONE;
        }
        rows.add(all);
        for (int h : turns) {
            Ratio[] row = new Ratio[n + 1];
            for (int i = 0; i < n; i++) {
                int p = beam.supports.get(i);
                row[i] = p < h ? Ratio.of(h - p, 1) : Ratio.ZERO;
            }
            row[n] = a < h ? Ratio.of(h - a, 1) : Ratio.ZERO;
            rows.add(row);
        }
        for (int k = 0; k < n; k++) {
            int pivot = k;
            while (pivot < n && rows.get(pivot)[k].sign() == 0) {
                pivot++;
            }
            if (pivot == n) {
                return null;
            }
            Ratio[] found = rows.get(pivot);
            rows.set(pivot, rows.get(k));
            rows.set(k, found);
            for (int i = 0; i < n; i++) {
                if (i != k && rows.get(i)[k].sign() != 0) {
                    Ratio factor = rows.get(i)[k].over(found[k]);
                    for (int j = k; j <= n; j++) {
                        rows.get(i)[j] = rows.get(i)[j].minus(factor.times(found[j]));
                    }
                }
            }
        }
        Ratio[] answer = new Ratio[n];
        for (int i = 0; i < n; i++) {
            answer[i] = rows.get(i)[n].over(rows.get(i)[i]);
        }
        return answer;
    }

    private static Ratio influenceOf(Beam beam, int kind, int at, int a) {
        long key = (kind * 100L + at) * 100 + a;
        Ratio known = beam.influences.get(key);
        if (known != null) {
            return known;
        }
        Ratio[] r = beam.reactions.get(a);
        Ratio made;
        if (kind == 0) {
            made = r[at];
        } else {
            made = Ratio.ZERO;
            for (int i = 0; i < r.length; i++) {
                int p = beam.supports.get(i);
                if (p < at) {
                    made = made.plus(r[i].times(Ratio.of(at - p, 1)));
                }
            }
            if (a < at) {
                made = made.minus(Ratio.of(at - a, 1));
            }
        }
        beam.influences.put(key, made);
        return made;
    }

    int told(int b, int what) {
        if (noBridge(b)) {
            return UNKNOWN;
        }
        if (out(what, 0, 6)) {
            return OUTSIDE;
        }
        Beam beam = beams.get(b);
        int[] all = {beam.length, beam.supports.size(), beam.hinges.size(), beam.checks.size(),
            beam.shake, beam.lanes, beam.share};
        return all[what];
    }

    long influence(int b, int kind, int at, int a, int what) {
        if (noSupport(b, kind, at)) {
            return UNKNOWN;
        }
        if (noResponse(b, kind, at) || out(a, 0, beams.get(b).length) || out(what, 0, 1)) {
            return OUTSIDE;
        }
        return influenceOf(beams.get(b), kind, at, a).part(what);
    }

    int rule(int b, int what, int v) {
        if (noBridge(b)) {
            return UNKNOWN;
        }
        int[] lows = {0, 1, 0};
        int[] highs = {60, 4, 100};
        if (out(what, 0, 2) || out(v, lows[what], highs[what])) {
            return OUTSIDE;
        }
        int was = told(b, 4 + what);
        Beam beam = beams.get(b);
        if (what == 0) {
            beam.shake = v;
        } else if (what == 1) {
            beam.lanes = v;
        } else {
            beam.share = v;
        }
        return was;
    }

    // ---- trains

    int train(int weight) {
        if (out(weight, 1, 200)) {
            return OUTSIDE;
        }
        if (trains.size() == 8) {
            return FULL;
        }
        trains.add(new Axles(new ArrayList<>(List.of(weight)), new ArrayList<>(List.of(0))));
        traffics.add(0);
        return trains.size() - 1;
    }

    int axle(int t, int gap, int weight) {
        if (noTrain(t)) {
            return UNKNOWN;
        }
        if (out(gap, 1, 20) || out(weight, 1, 200)) {
            return OUTSIDE;
        }
        Axles train = trains.get(t);
        if (train.weights().size() == 8) {
            return FULL;
        }
        train.weights().add(weight);
        train.gaps().add(gap);
        return train.weights().size();
    }

    int axles(int t, int k, int what) {
        if (noTrain(t)) {
            return UNKNOWN;
        }
        if (out(what, 0, 1)) {
            return OUTSIDE;
        }
        Axles train = trains.get(t);
        if (k == NONE) {
            return what == 0 ? train.weights().size() : train.allGaps();
        }
        if (out(k, 0, train.weights().size() - 1)) {
            return NONE;
        }
        return what == 0 ? train.weights().get(k) : train.gaps().get(k);
    }

    private static Ratio effectOf(Beam beam, int kind, int at, Axles told, int way, int time) {
        Axles train = way == 0 ? told : told.turned();
        Ratio sum = Ratio.ZERO;
        int place = time;
        for (int k = 0; k < train.weights().size(); k++) {
            if (k > 0) {
                place -= train.gaps().get(k);
            }
            if (place >= 0 && place <= beam.length) {
                sum = sum.plus(Ratio.of(train.weights().get(k), 1).times(influenceOf(beam, kind, at, place)));
            }
        }
        return sum;
    }

    long effect(int b, int kind, int at, int t, int way, int time, int what) {
        if (noSupport(b, kind, at) || noTrain(t)) {
            return UNKNOWN;
        }
        if (noResponse(b, kind, at) || out(way, 0, 1) || out(what, 0, 1)
                || out(time, 0, beams.get(b).length + trains.get(t).allGaps())) {
            return OUTSIDE;
        }
        return effectOf(beams.get(b), kind, at, trains.get(t), way, time).part(what);
    }

    private static Worst worstOf(Beam beam, int kind, int at, Axles train, int end) {
        Worst best = null;
        for (int way = 0; way < 2; way++) {
            for (int time = 0; time <= beam.length + train.allGaps(); time++) {
                Ratio effect = effectOf(beam, kind, at, train, way, time);
                int than = best == null ? 0 : effect.compareTo(best.value());
                if (best == null || (end == 0 ? than > 0 : than < 0)) {
                    best = new Worst(effect, way, time);
                }
            }
        }
        boolean beyond = end == 0 ? best.value().sign() < 0 : best.value().sign() > 0;
        return beyond ? new Worst(Ratio.ZERO, NONE, NONE) : best;
    }

    long worst(int b, int kind, int at, int t, int end, int what) {
        if (noSupport(b, kind, at) || noTrain(t)) {
            return UNKNOWN;
        }
        if (noResponse(b, kind, at) || out(end, 0, 1) || out(what, 0, 3)) {
            return OUTSIDE;
        }
        Worst worst = worstOf(beams.get(b), kind, at, trains.get(t), end);
        return what == 2 ? worst.way() : what == 3 ? worst.time() : worst.value().part(what);
    }

    // ---- checks

    int check(int b, int kind, int at, int high, int low) {
        if (noSupport(b, kind, at)) {
            return UNKNOWN;
        }
        if (noResponse(b, kind, at) || out(high, 0, 100000) || out(low, -100000, 0)) {
            return OUTSIDE;
        }
        Beam beam = beams.get(b);
        if (beam.checks.size() == 5) {
            return FULL;
        }
        Limit made = new Limit();
        made.kind = kind;
        made.at = at;
        made.high = high;
        made.low = low;
        beam.checks.add(made);
        return beam.checks.size() - 1;
    }

    int limit(int b, int c, int high, int low) {
        if (noBridge(b) || out(c, 0, beams.get(b).checks.size() - 1)) {
            return UNKNOWN;
        }
        if (out(high, 0, 100000) || out(low, -100000, 0)) {
            return OUTSIDE;
        }
        beams.get(b).checks.get(c).high = high;
        beams.get(b).checks.get(c).low = low;
        return 1;
    }

    int usual(int t) {
        if (t != NONE && noTrain(t)) {
            return UNKNOWN;
        }
        int was = usual;
        usual = t;
        return was;
    }

    private Ratio totalOf(Beam beam, Limit check, Axles train, int mode, int end) {
        Ratio sum = worstOf(beam, check.kind, check.at, train, end).value();
        if (mode == 0 && usual != NONE) {
            Ratio others = worstOf(beam, check.kind, check.at, trains.get(usual), end).value();
            sum = sum.plus(others.times(Ratio.of((beam.lanes - 1) * beam.share, 100)));
        }
        return mode == 2 ? sum : sum.times(Ratio.of(100 + beam.shake, 100));
    }

    private boolean met(Beam beam, Limit check, Axles train, int mode) {
        return totalOf(beam, check, train, mode, 0).compareTo(Ratio.of(check.high, 1)) <= 0
                && totalOf(beam, check, train, mode, 1).compareTo(Ratio.of(check.low, 1)) >= 0;
    }

    private int failing(Beam beam, Axles train, int mode) {
        for (int c = 0; c < beam.checks.size(); c++) {
            if (!met(beam, beam.checks.get(c), train, mode)) {
                return c;
            }
        }
        return NONE;
    }

    long total(int b, int c, int t, int mode, int end, int what) {
        if (noBridge(b) || out(c, 0, beams.get(b).checks.size() - 1) || noTrain(t)) {
            return UNKNOWN;
        }
        if (out(mode, 0, 2) || out(end, 0, 1) || out(what, 0, 1)) {
            return OUTSIDE;
        }
        Beam beam = beams.get(b);
        return totalOf(beam, beam.checks.get(c), trains.get(t), mode, end).part(what);
    }

    int fails(int b, int t, int mode) {
        if (noBridge(b) || noTrain(t)) {
            return UNKNOWN;
        }
        return out(mode, 0, 2) ? OUTSIDE : failing(beams.get(b), trains.get(t), mode);
    }

    int posted(int b, int t) {
        if (noBridge(b) || noTrain(t)) {
            return UNKNOWN;
        }
        Axles train = trains.get(t);
        for (int p = 300; p >= 0; p--) {
            List<Integer> weights = new ArrayList<>();
            for (int w : train.weights()) {
                weights.add(w * p / 100);
            }
            if (failing(beams.get(b), new Axles(weights, train.gaps()), 0) == NONE) {
                return p;
            }
        }
        return NONE;
    }

    int spread(int b, int t, int mode) {
        if (noBridge(b) || noTrain(t)) {
            return UNKNOWN;
        }
        if (out(mode, 0, 2)) {
            return OUTSIDE;
        }
        Axles train = trains.get(t);
        for (int k = 0; k <= 20; k++) {
            List<Integer> gaps = new ArrayList<>();
            for (int g : train.gaps()) {
                gaps.add(g + k);
            }
            if (failing(beams.get(b), new Axles(train.weights(), gaps), mode) == NONE) {
                return k;
            }
        }
        return NONE;
    }

    // ---- roads

    int road(int from, int to, int miles, int b) {
        if (out(from, 0, 9) || out(to, 0, 9) || b != NONE && noBridge(b)) {
            return UNKNOWN;
        }
        if (out(miles, 1, 500) || from == to) {
            return OUTSIDE;
        }
        if (roads.size() == 24) {
            return FULL;
        }
        roads.add(new Road(from, to, miles, b));
        return roads.size() - 1;
    }

    /** Looks at every way that comes to no town twice, and keeps the best. */
    private final class Ways {
        private final boolean[] open;
        private final int goal;
        private List<Integer> best = null;
        private int bestMiles = 0;

        Ways(boolean[] open, int from, int goal) {
            this.open = open;
            this.goal = goal;
            go(from, 1 << from, 0, new ArrayList<>());
        }

        private void go(int town, int seen, int miles, List<Integer> way) {
            if (best != null && miles > bestMiles) {
                return;
            }
            if (town == goal) {
                if (best == null || better(miles, way)) {
                    best = new ArrayList<>(way);
                    bestMiles = miles;
                }
                return;
            }
            for (int r = 0; r < roads.size(); r++) {
                Road road = roads.get(r);
                if (open[r] && (road.from() == town || road.to() == town)) {
                    int next = road.from() == town ? road.to() : road.from();
                    if ((seen >> next & 1) == 0) {
                        way.add(r);
                        go(next, seen | 1 << next, miles + road.miles(), way);
                        way.remove(way.size() - 1);
                    }
                }
            }
        }

        private boolean better(int miles, List<Integer> way) {
            if (miles != bestMiles) {
                return miles < bestMiles;
            }
            if (way.size() != best.size()) {
                return way.size() < best.size();
            }
            for (int i = 0; i < way.size(); i++) {
                if (!way.get(i).equals(best.get(i))) {
                    return way.get(i) < best.get(i);
                }
            }
            return false;
        }
    }

    private Ways ways(int t, int mode, int from, int to, boolean all) {
        int[] failingOf = new int[beams.size()];
        for (int b = 0; b < beams.size(); b++) {
            failingOf[b] = failing(beams.get(b), trains.get(t), mode);
        }
        boolean[] open = new boolean[roads.size()];
        for (int r = 0; r < roads.size(); r++) {
            int b = roads.get(r).bridge();
            open[r] = all || b == NONE || failingOf[b] == NONE;
        }
        return new Ways(open, from, to);
    }

    int route(int t, int mode, int from, int to, int what) {
        if (noTrain(t) || out(from, 0, 9) || out(to, 0, 9)) {
            return UNKNOWN;
        }
        if (out(mode, 0, 2) || out(what, 0, 11) || from == to) {
            return OUTSIDE;
        }
        Ways ways = ways(t, mode, from, to, false);
        if (ways.best == null) {
            return NONE;
        }
        if (what == 0) {
            return ways.bestMiles;
        }
        if (what == 1) {
            return ways.best.size();
        }
        return what - 2 < ways.best.size() ? ways.best.get(what - 2) : NONE;
    }

    int why(int t, int mode, int from, int to) {
        if (noTrain(t) || out(from, 0, 9) || out(to, 0, 9)) {
            return UNKNOWN;
        }
        if (out(mode, 0, 2) || from == to) {
            return OUTSIDE;
        }
        if (ways(t, mode, from, to, false).best != null) {
            return NONE;
        }
        Ways would = ways(t, mode, from, to, true);
        if (would.best == null) {
            return NONE;
        }
        for (int r : would.best) {
            int b = roads.get(r).bridge();
            int c = b == NONE ? NONE : failing(beams.get(b), trains.get(t), mode);
            if (c != NONE) {
                return 10 * b + c;
            }
        }
        return NONE;
    }

    // ---- turns

    private static long[] turnsOf(Beam beam, int kind, int at, Axles train) {
        List<Ratio> row = new ArrayList<>();
        row.add(Ratio.ZERO);
        for (int time = 0; time <= beam.length + train.allGaps(); time++) {
            row.add(effectOf(beam, kind, at, train, 0, time));
        }
        row.add(Ratio.ZERO);
        while (dropOneBetween(row)) {
            continue;
        }
        BigInteger wear = BigInteger.ZERO;
        int whole = 0;
        int place = firstWholeTurn(row);
        while (place >= 0) {
            wear = wear.add(step(row, place + 1).cut().pow(3).multiply(BigInteger.TWO));
            whole++;
            row.remove(place + 1);
            row.remove(place + 1);
            place = firstWholeTurn(row);
        }
        for (int i = 0; i + 1 < row.size(); i++) {
            wear = wear.add(step(row, i).cut().pow(3));
        }
        return new long[] {wear.longValue(), whole, row.size() - 1};
    }

    private static boolean dropOneBetween(List<Ratio> row) {
        for (int i = 1; i + 1 < row.size(); i++) {
            int left = row.get(i).compareTo(row.get(i - 1));
            int right = row.get(i).compareTo(row.get(i + 1));
            if (left == 0 || right == 0 || left > 0 != right > 0) {
                row.remove(i);
                return true;
            }
        }
        return false;
    }

    private static Ratio step(List<Ratio> row, int i) {
        return row.get(i + 1).minus(row.get(i)).size();
    }

    private static int firstWholeTurn(List<Ratio> row) {
        for (int i = 0; i + 3 < row.size(); i++) {
            Ratio inner = step(row, i + 1);
            if (inner.compareTo(step(row, i)) <= 0 && inner.compareTo(step(row, i + 2)) <= 0) {
                return i;
            }
        }
        return -1;
    }

    long wear(int b, int kind, int at, int t, int what) {
        if (noSupport(b, kind, at) || noTrain(t)) {
            return UNKNOWN;
        }
        if (noResponse(b, kind, at) || out(what, 0, 2)) {
            return OUTSIDE;
        }
        return turnsOf(beams.get(b), kind, at, trains.get(t))[what];
    }

    int traffic(int t, int n) {
        if (noTrain(t)) {
            return UNKNOWN;
        }
        return out(n, 0, 1000) ? OUTSIDE : traffics.set(t, n);
    }

    long worn(int b, int kind, int at) {
        if (noSupport(b, kind, at)) {
            return UNKNOWN;
        }
        if (noResponse(b, kind, at)) {
            return OUTSIDE;
        }
        long sum = 0;
        for (int t = 0; t < trains.size(); t++) {
            sum += traffics.get(t) * turnsOf(beams.get(b), kind, at, trains.get(t))[0];
        }
        return sum;
    }

    int count(int what) {
        if (out(what, 0, 5)) {
            return OUTSIDE;
        }
        int checks = 0;
        for (Beam beam : beams) {
            checks += beam.checks.size();
        }
        int traffic = 0;
        for (int n : traffics) {
            traffic += n;
        }
        int[] all = {beams.size(), trains.size(), roads.size(), checks, usual, traffic};
        return all[what];
    }
}
