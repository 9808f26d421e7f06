import java.math.BigInteger;

/** The draws of a RUN, counted without wrap-around and cut to 64 bits by hand. */
final class Draws {
    private static final BigInteger FACTOR = new BigInteger("6364136223846793005");
    private static final BigInteger SUMMAND = new BigInteger("1442695040888963407");
    private static final BigInteger ROOM = BigInteger.TWO.pow(64);
    private BigInteger x;

    Draws(long seed) {
        x = BigInteger.valueOf(seed).mod(ROOM);
    }

    int of(int n) {
        x = x.multiply(FACTOR).add(SUMMAND).mod(ROOM);
        return x.shiftRight(33).mod(BigInteger.valueOf(n)).intValue();
    }

    /** Whether an OP is not left out. */
    boolean keeps() {
        return of(4) != 0;
    }

    int kept(int ops) {
        int n = 0;
        for (int i = 0; i < ops; i++) n += keeps() ? 1 : 0;
        return n;
    }
}
