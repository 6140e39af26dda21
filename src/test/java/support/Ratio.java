import java.math.BigInteger;

/** An exact quotient. */
final class Ratio implements Comparable<Ratio> {
    static final Ratio ZERO = of(0);
    static final Ratio ONE = of(1);

    final BigInteger over;
    final BigInteger under;

    private Ratio(BigInteger over, BigInteger under) {
        BigInteger g = over.gcd(under);
        BigInteger d = under.signum() < 0 ? g.negate() : g;
        this.over = over.divide(d);
        this.under = under.divide(d);
    }

    static Ratio of(long v) {
        return new Ratio(BigInteger.valueOf(v), BigInteger.ONE);
    }

    Ratio plus(Ratio o) {
        return new Ratio(over.multiply(o.under).add(o.over.multiply(under)), under.multiply(o.under));
    }

    Ratio minus(Ratio o) {
        return plus(new Ratio(o.over.negate(), o.under));
    }

    Ratio times(Ratio o) {
        return new Ratio(over.multiply(o.over), under.multiply(o.under));
    }

    Ratio times(long v) {
        return times(of(v));
    }

    Ratio by(Ratio o) {
        return new Ratio(over.multiply(o.under), under.multiply(o.over));
    }

    int sign() {
        return over.signum();
    }

    BigInteger floor() {
        BigInteger[] parts = over.divideAndRemainder(under);
        return parts[1].signum() < 0 ? parts[0].subtract(BigInteger.ONE) : parts[0];
    }

    int floorModulo(int m) {
        return floor().mod(BigInteger.valueOf(m)).intValue();
    }

    @Override
    public int compareTo(Ratio o) {
        return over.multiply(o.under).compareTo(o.over.multiply(under));
    }
}
