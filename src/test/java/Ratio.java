import java.math.BigInteger;

/** A fraction in least terms, as the document has it. */
final class Ratio implements Comparable<Ratio> {
    static final Ratio ZERO = of(0, 1);
    static final Ratio ONE = of(1, 1);

    final BigInteger upper;
    final BigInteger lower;

    private Ratio(BigInteger upper, BigInteger lower) {
        BigInteger common = upper.gcd(lower);
        if (lower.signum() < 0) {
            common = common.negate();
        }
        this.upper = upper.divide(common);
        this.lower = lower.divide(common);
    }

    static Ratio of(long upper, long lower) {
        return new Ratio(BigInteger.valueOf(upper), BigInteger.valueOf(lower));
    }

    Ratio plus(Ratio o) {
        return new Ratio(upper.multiply(o.lower).add(o.upper.multiply(lower)), lower.multiply(o.lower));
    }

    Ratio minus(Ratio o) {
        return plus(o.times(of(-1, 1)));
    }

    Ratio times(Ratio o) {
        return new Ratio(upper.multiply(o.upper), lower.multiply(o.lower));
    }

    Ratio over(Ratio o) {
        return new Ratio(upper.multiply(o.lower), lower.multiply(o.upper));
    }

    Ratio size() {
        return new Ratio(upper.abs(), lower);
    }

    BigInteger cut() {
        return upper.divide(lower);
    }

    int sign() {
        return upper.signum();
    }

    long part(int what) {
        return (what == 0 ? upper : lower).longValueExact();
    }

    @Override
    public int compareTo(Ratio o) {
        return upper.multiply(o.lower).compareTo(o.upper.multiply(lower));
    }
}
