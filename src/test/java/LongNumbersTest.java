import java.math.BigInteger;
import java.util.Random;

/**
 * Numbers of up to 4096 digits whose nines and zeros make guesses of a quotient's or a root's next
 * digits go wrong, against the model. A number that long takes more calls to type than the document
 * promises for one object; the class is written not to mind.
 */
public final class LongNumbersTest {
    private static final String[] LIMBS = {
        "000000000", "000000001", "999999999", "999999998", "500000000", "499999999", "100000000", "333333333"
    };
    private static final int[] ZEROS = {1, 6, 7, 100, 2000, 3000, 4000, 4080};

    private static final Random CHANCE = new Random(4096);

    private LongNumbersTest() {}

    public static void main(String[] args) {
        int rounds = args.length > 0 ? Integer.parseInt(args[0]) : 6000;
        for (int i = 0; i < rounds; i++) {
            int most = i % 40 == 0 ? 455 : i % 4 == 0 ? 40 : 7;
            dividing(number(most), number(most));
            roots(number(most));
        }
        for (int z : ZEROS) {
            wholeWithZeros(z);
        }
        Bench.end();
    }

    private static BigInteger number(int mostLimbs) {
        StringBuilder text = new StringBuilder();
        text.append(1 + CHANCE.nextInt(CHANCE.nextBoolean() ? 9 : 999999998));
        int limbs = CHANCE.nextInt(mostLimbs);
        int kinds = 1 + CHANCE.nextInt(LIMBS.length + 2);
        int turn = CHANCE.nextInt(LIMBS.length);
        for (int i = 0; i < limbs; i++) {
            int kind = CHANCE.nextInt(kinds) + turn;
            text.append(kind >= LIMBS.length + 1
                    ? Integer.toString(1000000000 + CHANCE.nextInt(1000000000)).substring(1)
                    : LIMBS[kind % LIMBS.length]);
        }
        return new BigInteger(text.toString());
    }

    private static void set(TensMill x, Model m, int d, BigInteger u, int scale) {
        Bench.due("read", true, Bench.read(x, d, u.toString()));
        Bench.due("move", true, x.move(d, d, -scale));
        m.u[d] = u;
        m.scale[d] = scale;
    }

    private static void same(String what, boolean got, boolean due, TensMill x, Model m) {
        Bench.due(what, due, got);
        for (int r = 0; r < 4; r++) {
            Bench.due(what, m.u[r] + "@" + m.scale[r], Bench.show(x, r));
        }
    }

    private static void dividing(BigInteger a, BigInteger b) {
        TensMill x = new TensMill();
        Model m = new Model();
        set(x, m, 0, CHANCE.nextInt(3) == 0 && a.bitLength() + b.bitLength() < 13000 ? a.multiply(b) : a, CHANCE.nextInt(40) - 20);
        set(x, m, 1, b, CHANCE.nextInt(40) - 20);
        if (CHANCE.nextInt(3) == 0) {
            BigInteger beside = m.u[0].add(BigInteger.valueOf(CHANCE.nextInt(3) - 1));
            set(x, m, 0, beside, m.scale[0]);
        }
        int way = CHANCE.nextInt(8);
        int scale = CHANCE.nextInt(30) - 10;
        int p = CHANCE.nextInt(4) == 0 ? CHANCE.nextInt(4097) : CHANCE.nextInt(60);
        same("divide", x.divide(2, 0, 1, scale, way), m.divide(2, 0, 1, scale, way), x, m);
        same("ratio", x.ratio(3, 0, 1, p, way), m.ratio(3, 0, 1, p, way), x, m);
        same("whole", x.whole(2, 3, 0, 1), m.whole(2, 3, 0, 1), x, m);
        same("times", x.times(2, 2, 1), m.times(2, 2, 1), x, m);
        same("add", x.add(2, 2, 3), m.add(2, 2, 3, false), x, m);
        same("take", x.take(0, 2, 0), m.add(0, 2, 0, true), x, m);
    }

    private static void roots(BigInteger a) {
        TensMill x = new TensMill();
        Model m = new Model();
        BigInteger square = a.multiply(a);
        BigInteger near = square.bitLength() > 13600 ? a : square.add(beside(a));
        set(x, m, 0, near.max(BigInteger.ZERO), CHANCE.nextInt(9) - 4);
        int way = CHANCE.nextInt(8);
        int own = Math.min(4096, Model.digits(a) + CHANCE.nextInt(4) - 1);
        int p = CHANCE.nextInt(3) == 0 ? 1 + CHANCE.nextInt(4096) : Math.max(1, own);
        same("root " + p, x.root(1, 0, p, way), m.root(1, 0, p, way), x, m);
    }

    /** What brings a square to itself, to a neighbour, or to just below the next square. */
    private static BigInteger beside(BigInteger a) {
        switch (CHANCE.nextInt(5)) {
            case 0: return BigInteger.ZERO;
            case 1: return BigInteger.ONE;
            case 2: return BigInteger.ONE.negate();
            case 3: return a.shiftLeft(1);
            default: return a;
        }
    }

    /** A quotient of 4090 digits and z zeros, and something left: b * c is 1 below a power of ten. */
    private static void wholeWithZeros(int z) {
        BigInteger end = BigInteger.TEN.pow(4090);
        BigInteger c = BigInteger.TEN.pow(4089).add(number(450)).setBit(0);
        if (c.mod(BigInteger.valueOf(5)).signum() == 0) {
            c = c.add(BigInteger.TWO);
        }
        BigInteger b = c.modInverse(end).negate().mod(end);
        BigInteger a = b.multiply(c).add(BigInteger.ONE).divide(end);
        TensMill x = new TensMill();
        Model m = new Model();
        set(x, m, 0, a, -(4090 + z));
        set(x, m, 1, b, 0);
        same("whole with zeros", x.whole(2, 3, 0, 1), m.whole(2, 3, 0, 1), x, m);
        Bench.due("what is left", "1@" + -z, Bench.show(x, 3));
        Bench.due("the quotient", c + "@" + -z, Bench.show(x, 2));
    }
}
