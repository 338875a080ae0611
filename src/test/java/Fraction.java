import java.math.BigInteger;

/** An exact fraction in lowest terms with a positive denominator. */
record Fraction(BigInteger top, BigInteger bottom) implements Comparable<Fraction> {
    Fraction {
        BigInteger divisor = top.gcd(bottom);
        if (bottom.signum() < 0) {
            divisor = divisor.negate();
        }
        top = top.divide(divisor);
        bottom = bottom.divide(divisor);
    }

    static Fraction of(long number) {
        return new Fraction(BigInteger.valueOf(number), BigInteger.ONE);
    }

    Fraction plus(Fraction other) {
        return new Fraction(top.multiply(other.bottom).add(other.top.multiply(bottom)),
                bottom.multiply(other.bottom));
    }

    Fraction minus(Fraction other) {
        return plus(other.times(of(-1)));
    }

    Fraction times(Fraction other) {
        return new Fraction(top.multiply(other.top), bottom.multiply(other.bottom));
    }

    Fraction over(Fraction other) {
        return new Fraction(top.multiply(other.bottom), bottom.multiply(other.top));
    }

    int sign() {
        return top.signum();
    }

    @Override
    public int compareTo(Fraction other) {
        return minus(other).sign();
    }
}
