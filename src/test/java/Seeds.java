import java.math.BigInteger;

/** The seeds of draws, reckoned by integers that have no bounds. */
final class Seeds {
    private static final BigInteger FACTOR = BigInteger.valueOf(1103515245);
    private static final BigInteger ADDED = BigInteger.valueOf(12345);
    private static final BigInteger ALL = BigInteger.ONE.shiftLeft(32);

    private Seeds() {
    }

    /** The seed that comes after another one. */
    static int next(int seed) {
        return BigInteger.valueOf(seed).multiply(FACTOR).add(ADDED).intValue();
    }

    /** The seed after which another one comes. */
    static int ahead(int next) {
        return BigInteger.valueOf(next).subtract(ADDED).multiply(FACTOR.modInverse(ALL)).intValue();
    }

    /** A seed after which one comes whose upper 16 bits are these: they are the offset, if it is small enough. */
    static int drawing(int upper) {
        return ahead(upper << 16);
    }

    /** The seed shifted right by 16 without sign. */
    static int upper(int seed) {
        return BigInteger.valueOf(seed).mod(ALL).shiftRight(16).intValue();
    }
}
