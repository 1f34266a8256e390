/** Promises 1 to 5: a new object, bridge, told, influence, rule. */
public final class BridgesTest {
    private static final int NONE = RollingLoads.NONE;
    private static final int UNKNOWN = RollingLoads.UNKNOWN;
    private static final int OUTSIDE = RollingLoads.OUTSIDE;
    private static final int NOT = RollingLoads.NOT;
    private static final int FULL = RollingLoads.FULL;

    private static void newObject() {
        RollingLoads x = new RollingLoads();
        int[] want = {0, 0, 0, 0, NONE, 0};
        for (int what = 0; what < want.length; what++) {
            Due.due("new: count(" + what + ")", x.count(what), want[what]);
        }
        Due.due("new: told", x.told(0, 0), UNKNOWN);
        Due.due("new: axles", x.axles(0, NONE, 0), UNKNOWN);
        Due.due("new: road over bridge 0", x.road(0, 1, 1, 0), UNKNOWN);
        Due.due("new: usual", x.usual(NONE), NONE);
        x.bridge(10, Due.bits(0, 10), 0);
        RollingLoads y = new RollingLoads();
        Due.due("a second object has its own bridges", y.count(0), 0);
    }

    private static void bridgeOutside() {
        RollingLoads x = new RollingLoads();
        long ends = Due.bits(0, 10);
        Due.due("length 1", x.bridge(1, 3, 0), OUTSIDE);
        Due.due("length 61", x.bridge(61, ends, 0), OUTSIDE);
        Due.due("length MIN", x.bridge(Integer.MIN_VALUE, ends, 0), OUTSIDE);
        Due.due("length MAX", x.bridge(Integer.MAX_VALUE, ends, 0), OUTSIDE);
        Due.due("length 66, as long as 2 for a shift", x.bridge(66, 3, 0), OUTSIDE);
        Due.due("no support", x.bridge(10, 0, 0), OUTSIDE);
        Due.due("one support", x.bridge(10, 1, 0), OUTSIDE);
        Due.due("six supports", x.bridge(20, Due.bits(0, 2, 4, 6, 8, 10), Due.bits(1, 3, 5, 7)), OUTSIDE);
        Due.due("a support behind the end", x.bridge(10, Due.bits(0, 11), 0), OUTSIDE);
        Due.due("a support at bit 63", x.bridge(10, ends | Long.MIN_VALUE, 2), OUTSIDE);
        Due.due("a hinge too many", x.bridge(10, ends, 4), OUTSIDE);
        Due.due("a hinge too few", x.bridge(10, Due.bits(0, 5, 10), 0), OUTSIDE);
        Due.due("a hinge at 0", x.bridge(10, Due.bits(1, 5, 10), 1), OUTSIDE);
        Due.due("a hinge at the end", x.bridge(10, Due.bits(0, 5, 9), Due.bits(10)), OUTSIDE);
        Due.due("a hinge behind the end", x.bridge(10, Due.bits(0, 5, 9), Due.bits(11)), OUTSIDE);
        Due.due("a hinge at bit 63", x.bridge(60, Due.bits(0, 5, 9), Long.MIN_VALUE), OUTSIDE);
        Due.due("a hinge on a support", x.bridge(10, Due.bits(0, 5, 10), Due.bits(5)), OUTSIDE);
        Due.due("all bits", x.bridge(60, -1L, -1L), OUTSIDE);
        Due.due("nothing came of it", x.count(0), 0);
    }

    private static void bridgeLoose() {
        RollingLoads x = new RollingLoads();
        Due.due("all supports left of the hinge", x.bridge(10, Due.bits(0, 2, 4), Due.bits(6)), NOT);
        Due.due("all supports right of the hinge", x.bridge(10, Due.bits(6, 8, 10), Due.bits(3)), NOT);
        Due.due("2, 2, 0", x.bridge(20, Due.bits(0, 3, 6, 9), Due.bits(5, 12)), NOT);
        Due.due("1, 0, 3", x.bridge(20, Due.bits(0, 12, 15, 20), Due.bits(5, 9)), NOT);
        Due.due("3, 0, 1", x.bridge(20, Due.bits(0, 2, 4, 20), Due.bits(8, 12)), NOT);
        Due.due("OUTSIDE is ahead of NOT", x.bridge(1, Due.bits(0, 2, 4), Due.bits(6)), OUTSIDE);
        Due.due("loose ones are none", x.count(0), 0);
        Due.due("1, 2", x.bridge(10, Due.bits(0, 5, 10), Due.bits(3)), 0);
        Due.due("2, 1", x.bridge(10, Due.bits(0, 5, 10), Due.bits(7)), 1);
        Due.due("2, 0, 2", x.bridge(20, Due.bits(0, 5, 15, 20), Due.bits(8, 12)), 2);
        Due.due("2, 1, 1", x.bridge(20, Due.bits(0, 5, 10, 15), Due.bits(7, 12)), 3);
        Due.due("1, 2, 1, 1", x.bridge(60, Due.bits(0, 10, 20, 40, 60), Due.bits(5, 30, 50)), 4);
        Due.due("shortest", x.bridge(2, 3, 0), 5);
        Due.due("NOT is ahead of FULL", x.bridge(10, Due.bits(0, 2, 4), Due.bits(6)), NOT);
        Due.due("OUTSIDE is ahead of FULL", x.bridge(10, 1, 0), OUTSIDE);
        Due.due("the seventh", x.bridge(10, Due.bits(0, 10), 0), FULL);
        Due.due("six", x.count(0), 6);
        Due.due("the last", x.told(5, 1), 2);
        Due.due("beyond six", x.told(6, 0), UNKNOWN);
        Due.due("beyond six: influence", x.influence(6, 0, 0, 0, 0), UNKNOWN);
        Due.due("beyond six: rule", x.rule(6, 0, 0), UNKNOWN);
        Due.due("beyond six: road", x.road(0, 1, 1, 6), UNKNOWN);
        Due.due("what was refused left bridge 5", x.told(5, 0), 2);
    }

    private static void told() {
        RollingLoads x = new RollingLoads();
        x.bridge(10, Due.bits(0, 10), 0);
        x.bridge(60, Due.bits(0, 10, 20, 40, 60), Due.bits(5, 30, 50));
        int[] first = {10, 2, 0, 0, 30, 1, 50};
        int[] second = {60, 5, 3, 2, 30, 1, 50};
        x.check(1, 0, 0, 1, 0);
        x.check(1, 0, 1, 1, 0);
        for (int what = 0; what < 7; what++) {
            Due.due("told(0, " + what + ")", x.told(0, what), first[what]);
            Due.due("told(1, " + what + ")", x.told(1, what), second[what]);
        }
        Due.due("told(0, -1)", x.told(0, -1), OUTSIDE);
        Due.due("told(0, 7)", x.told(0, 7), OUTSIDE);
        Due.due("told(-1, 0)", x.told(-1, 0), UNKNOWN);
        Due.due("told(2, 0)", x.told(2, 0), UNKNOWN);
        Due.due("told(2, 9)", x.told(2, 9), UNKNOWN);
    }

    private static void influence(RollingLoads x, int kind, int at, int a, long upper, long lower) {
        Due.fraction("influence " + kind + " " + at + " " + a,
                x.influence(0, kind, at, a, 0), x.influence(0, kind, at, a, 1), upper, lower);
    }

    private static void influences() {
        RollingLoads x = new RollingLoads();
        // Supports at 2 and 8 with ends that reach out on both sides.
        x.bridge(10, Due.bits(2, 8), 0);
        influence(x, 0, 0, 0, 4, 3);
        influence(x, 0, 1, 0, -1, 3);
        influence(x, 0, 0, 2, 1, 1);
        influence(x, 0, 1, 2, 0, 1);
        influence(x, 0, 0, 10, -1, 3);
        influence(x, 0, 1, 10, 4, 3);
        influence(x, 1, 2, 0, -2, 1);
        influence(x, 1, 5, 5, 3, 2);
        influence(x, 1, 5, 0, -1, 1);
        influence(x, 1, 1, 0, -1, 1);
        influence(x, 1, 10, 3, 0, 1);
        influence(x, 1, 0, 3, 0, 1);
        Due.due("UNKNOWN bridge", x.influence(1, 0, 0, 0, 0), UNKNOWN);
        Due.due("UNKNOWN support", x.influence(0, 0, 2, 0, 0), UNKNOWN);
        Due.due("UNKNOWN support -1", x.influence(0, 0, -1, 0, 0), UNKNOWN);
        Due.due("UNKNOWN is ahead", x.influence(0, 0, 2, 99, 99), UNKNOWN);
        Due.due("KIND 2", x.influence(0, 2, 0, 0, 0), OUTSIDE);
        Due.due("KIND -1", x.influence(0, -1, 99, 0, 0), OUTSIDE);
        Due.due("PLACE 11", x.influence(0, 1, 11, 0, 0), OUTSIDE);
        Due.due("PLACE -1", x.influence(0, 1, -1, 0, 0), OUTSIDE);
        Due.due("a = 11", x.influence(0, 1, 0, 11, 0), OUTSIDE);
        Due.due("a = -1", x.influence(0, 1, 0, -1, 0), OUTSIDE);
        Due.due("what 2", x.influence(0, 1, 0, 0, 2), OUTSIDE);
        Due.due("what -1", x.influence(0, 1, 0, 0, -1), OUTSIDE);
    }

    /** The conditions of the document, looked at on a bridge whose elimination has to change rows. */
    private static void hingedInfluences() {
        RollingLoads x = new RollingLoads();
        Due.due("2, 0, 2", x.bridge(20, Due.bits(0, 4, 14, 20), Due.bits(7, 12)), 0);
        influence(x, 0, 0, 9, -9, 20);
        influence(x, 0, 1, 9, 21, 20);
        influence(x, 0, 2, 9, 8, 15);
        influence(x, 0, 3, 9, -2, 15);
        for (int a = 0; a <= 20; a++) {
            influence(x, 1, 7, a, 0, 1);
            influence(x, 1, 12, a, 0, 1);
            influence(x, 1, 20, a, 0, 1);
        }
        influence(x, 1, 9, 9, 6, 5);
    }

    private static void rule() {
        RollingLoads x = new RollingLoads();
        x.bridge(10, Due.bits(0, 10), 0);
        x.bridge(12, Due.bits(0, 12), 0);
        int[] first = {30, 1, 50};
        int[] least = {0, 1, 0};
        int[] most = {60, 4, 100};
        for (int what = 0; what < 3; what++) {
            Due.due("rule " + what + " too low", x.rule(0, what, least[what] - 1), OUTSIDE);
            Due.due("rule " + what + " too high", x.rule(0, what, most[what] + 1), OUTSIDE);
            Due.due("rule " + what + " least", x.rule(0, what, least[what]), first[what]);
            Due.due("rule " + what + " most", x.rule(0, what, most[what]), least[what]);
            Due.due("rule " + what + " is kept", x.told(0, 4 + what), most[what]);
            Due.due("the other bridge keeps its own", x.told(1, 4 + what), first[what]);
        }
        Due.due("rule 3", x.rule(0, 3, 1), OUTSIDE);
        Due.due("rule -1", x.rule(0, -1, 1), OUTSIDE);
        Due.due("rule of bridge 2", x.rule(2, 3, 1000), UNKNOWN);
        Due.due("rule of bridge -1", x.rule(-1, 0, 1), UNKNOWN);
    }

    public static void main(String[] args) {
        newObject();
        bridgeOutside();
        bridgeLoose();
        told();
        influences();
        hingedInfluences();
        rule();
        Due.end();
    }
}
