import java.math.BigInteger;

/** A fraction in lowest terms, of any size. */
final class Rational implements Comparable<Rational> {
    static final Rational ZERO = of(0);
    static final Rational ONE = of(1);

    final BigInteger top;
    final BigInteger bottom;

    private Rational(BigInteger top, BigInteger bottom) {
        BigInteger common = top.gcd(bottom);
        BigInteger by = bottom.signum() < 0 ? common.negate() : common;
        this.top = top.divide(by);
        this.bottom = bottom.divide(by);
    }

    static Rational of(long top) {
        return of(top, 1);
    }

    static Rational of(long top, long bottom) {
        return new Rational(BigInteger.valueOf(top), BigInteger.valueOf(bottom));
    }

    Rational plus(Rational o) {
        return new Rational(top.multiply(o.bottom).add(o.top.multiply(bottom)), bottom.multiply(o.bottom));
    }

    Rational minus(Rational o) {
        return plus(o.negated());
    }

    Rational times(Rational o) {
        return new Rational(top.multiply(o.top), bottom.multiply(o.bottom));
    }

    Rational by(Rational o) {
        return new Rational(top.multiply(o.bottom), bottom.multiply(o.top));
    }

    Rational negated() {
        return new Rational(top.negate(), bottom);
    }

    int signum() {
        return top.signum();
    }

    long roundedDown() {
        BigInteger[] parts = top.divideAndRemainder(bottom);
        return parts[1].signum() < 0 ? parts[0].longValueExact() - 1 : parts[0].longValueExact();
    }

    long roundedUp() {
        return -negated().roundedDown();
    }

    @Override
    public int compareTo(Rational o) {
        return top.multiply(o.bottom).compareTo(o.top.multiply(bottom));
    }
}
