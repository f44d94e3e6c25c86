import java.math.BigInteger;

/** Exact fractions of any size, for solvers that the program is held beside. */
final class Ratio implements Comparable<Ratio> {
    static final Ratio ZERO = of(0, 1);
    static final Ratio ONE = of(1, 1);

    final BigInteger upper;
    final BigInteger lower;

    private Ratio(BigInteger upper, BigInteger lower) {
        BigInteger common = upper.gcd(lower);
        BigInteger divisor = lower.signum() < 0 ? common.negate() : common;
        this.upper = upper.divide(divisor);
        this.lower = lower.divide(divisor);
    }

    static Ratio of(long upper, long lower) {
        return new Ratio(BigInteger.valueOf(upper), BigInteger.valueOf(lower));
    }

    Ratio plus(Ratio other) {
        return new Ratio(upper.multiply(other.lower).add(other.upper.multiply(lower)), lower.multiply(other.lower));
    }

    Ratio minus(Ratio other) {
        return plus(other.times(of(-1, 1)));
    }

    Ratio times(Ratio other) {
        return new Ratio(upper.multiply(other.upper), lower.multiply(other.lower));
    }

    Ratio by(Ratio other) {
        return new Ratio(upper.multiply(other.lower), lower.multiply(other.upper));
    }

    Ratio size() {
        return new Ratio(upper.abs(), lower);
    }

    boolean isZero() {
        return upper.signum() == 0;
    }

    long part(int part) {
        return (part == 0 ? upper : lower).longValueExact();
    }

    @Override
    public int compareTo(Ratio other) {
        return upper.multiply(other.lower).compareTo(other.upper.multiply(lower));
    }

    @Override
    public boolean equals(Object other) {
        return other instanceof Ratio && compareTo((Ratio) other) == 0;
    }

    @Override
    public int hashCode() {
        return 31 * upper.hashCode() + lower.hashCode();
    }

    @Override
    public String toString() {
        return upper + "/" + lower;
    }
}
