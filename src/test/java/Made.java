/** Objects that many cases begin with. */
final class Made {
    private static final int NONE = RollingLoads.NONE;

    private Made() {
    }

    /** One beam on its ends. */
    static RollingLoads beam(int length) {
        RollingLoads x = new RollingLoads();
        x.bridge(length, Due.bits(0, length), 0);
        return x;
    }

    /** A train more, of a first weight, then of a gap and a weight for each axle more. */
    static int train(RollingLoads x, int weight, int... gapsAndWeights) {
        int t = x.train(weight);
        for (int i = 0; i + 1 < gapsAndWeights.length; i += 2) {
            x.axle(t, gapsAndWeights[i], gapsAndWeights[i + 1]);
        }
        return t;
    }

    /** A beam of 10 on its ends; axles of 10, 20 and 30, 2 and 5 apart, which tells the ways apart. */
    static RollingLoads threeAxles() {
        RollingLoads x = beam(10);
        train(x, 10, 2, 20, 5, 30);
        return x;
    }

    /** A beam of 12 on its ends; a train of 40 and 40, 3 apart; one of three 25s, 5 apart. */
    static RollingLoads twoTrains() {
        RollingLoads x = beam(12);
        train(x, 40, 3, 40);
        train(x, 25, 5, 25, 5, 25);
        return x;
    }

    /** 0 to 1 over bridge 0, which 50 fails free; 0 to 2 to 1 over bridge 1 and none; 3 over both. */
    static RollingLoads twoBridges() {
        RollingLoads x = new RollingLoads();
        x.bridge(8, Due.bits(0, 8), 0);
        x.bridge(16, Due.bits(0, 16), 0);
        x.train(50);
        x.check(0, 1, 4, 100, 0);
        x.check(1, 0, 0, 65, 0);
        x.check(1, 1, 8, 259, 0);
        x.road(0, 1, 5, 0);
        x.road(0, 2, 5, 1);
        x.road(2, 1, 5, NONE);
        x.road(1, 3, 7, 0);
        return x;
    }

    /** Something of everything, and room for more everywhere. */
    static RollingLoads some() {
        RollingLoads x = twoBridges();
        x.bridge(30, Due.bits(0, 10, 20, 30), Due.bits(13, 17));
        x.check(2, 1, 5, 90, -120);
        train(x, 40, 3, 60, 2, 7);
        x.road(3, 4, 9, 2);
        x.usual(1);
        x.rule(0, 1, 2);
        x.rule(1, 0, 12);
        x.rule(2, 2, 77);
        x.traffic(0, 3);
        x.traffic(1, 40);
        return x;
    }

    /** Every table full: 6 bridges with 5 checks each, 8 trains of 8 axles, 24 roads. */
    static RollingLoads full() {
        RollingLoads x = new RollingLoads();
        for (int b = 0; b < 6; b++) {
            x.bridge(20 + 8 * b, Due.bits(0, 7, 20 + 8 * b), Due.bits(5 + 4 * (b % 2)));
            for (int c = 0; c < 5; c++) {
                x.check(b, c % 2, c % 2 == 0 ? c / 2 : 3 * c, 700 + 400 * b, -500 - 300 * c);
            }
        }
        for (int t = 0; t < 8; t++) {
            x.train(20 * t + 5);
            for (int k = 1; k < 8; k++) {
                x.axle(t, 1 + (5 * t + 3 * k) % 20, 1 + (90 * t + 31 * k) % 120);
            }
            x.traffic(t, 100 * t + 1);
        }
        for (int r = 0; r < 24; r++) {
            x.road(r % 9, r % 9 + 1, 1 + (37 * r) % 500, r % 7 - 1);
        }
        x.usual(7);
        x.rule(5, 1, 3);
        return x;
    }
}
