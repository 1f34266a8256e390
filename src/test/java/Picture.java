import java.util.ArrayList;
import java.util.List;

/**
 * What the calls of an object show, as a list of answers. A full object is made by some 130 calls and
 * shown by some 260 more, and so stays below the 512 calls for which anything is promised.
 */
final class Picture {
    private static final int NONE = RollingLoads.NONE;

    private final RollingLoads x;
    private final List<Long> answers = new ArrayList<>();

    private Picture(RollingLoads x) {
        this.x = x;
    }

    /** Looked at last: what can be read by setting it anew alone is set anew. */
    static List<Long> of(RollingLoads x) {
        Picture picture = new Picture(x);
        int[] counts = new int[6];
        for (int what = 0; what < 6; what++) {
            counts[what] = x.count(what);
            picture.add(counts[what]);
        }
        for (int b = 0; b < counts[0]; b++) {
            picture.addBridge(b, counts[1]);
        }
        picture.addRoutes(counts[1] - 1);
        for (int t = 0; t < counts[1]; t++) {
            picture.addTrain(t);
        }
        picture.add(x.usual(NONE));
        return picture.answers;
    }

    private void add(long answer) {
        answers.add(answer);
    }

    private void addBridge(int b, int trains) {
        int[] told = new int[7];
        for (int what = 0; what < 7; what++) {
            told[what] = x.told(b, what);
            add(told[what]);
        }
        add(x.influence(b, 0, 0, told[0], 0));
        add(x.influence(b, 1, told[0] / 2, told[0] / 2, 0));
        add(x.worn(b, 1, told[0] / 2));
        for (int c = 0; c < told[3]; c++) {
            add(x.total(b, c, 0, 0, c % 2, 0));
        }
        for (int t = 0; t < Math.min(2, trains); t++) {
            add(x.fails(b, t, 2));
            add(x.posted(b, t));
            add(x.spread(b, t, 1));
        }
    }

    private void addRoutes(int t) {
        for (int to = 1; to < 10; to++) {
            add(x.route(t, 2, 0, to, 0));
            add(x.route(t, 2, 0, to, 2));
            add(x.why(t, 0, 0, to));
        }
    }

    private void addTrain(int t) {
        add(x.axles(t, NONE, 0));
        add(x.axles(t, NONE, 1));
        add(x.axles(t, 7, 1));
        for (int k = 0; k < 8; k++) {
            add(x.axles(t, k, 0));
        }
        add(x.traffic(t, 0));
    }
}
