import java.math.BigDecimal;
import java.math.BigInteger;
import java.util.regex.Matcher;
import java.util.regex.Pattern;

/**
 * The document once more, over fractions of BigIntegers and with no thought of speed. A value is
 * over / under * 10^ten; ten is kept apart because scales may be far too great to be raised to.
 */
final class Model {
    static final int MOST = 4096;
    private static final int FAR = 14000;
    private static final Pattern NUMERAL =
            Pattern.compile("([+-]?)(?=\\.?[0-9])([0-9]*)(?:\\.([0-9]*))?(?:[eE]([+-]?[0-9]+))?");

    final BigInteger[] u = new BigInteger[8];
    final int[] scale = new int[8];
    String typed = "";
    String laid = "";

    Model() {
        for (int i = 0; i < 8; i++) {
            u[i] = BigInteger.ZERO;
        }
    }

    static int digits(BigInteger x) {
        return x.abs().toString().length();
    }

    static BigInteger ten(long k) {
        return BigInteger.TEN.pow(Math.toIntExact(k));
    }

    static boolean is(int... registers) {
        for (int r : registers) {
            if (r < 0 || r > 7) {
                return false;
            }
        }
        return true;
    }

    static boolean fits(BigInteger x, long s) {
        return x != null && s == (int) s && x.abs().compareTo(ten(MOST)) < 0;
    }

    boolean keep(int d, BigInteger x, long s) {
        if (!is(d) || !fits(x, s)) {
            return false;
        }
        u[d] = x;
        scale[d] = (int) s;
        return true;
    }

    /** x * 10^k, or null when that is not 0 and far too long. */
    static BigInteger up(BigInteger x, long k) {
        if (x.signum() == 0) {
            return x;
        }
        return k > FAR ? null : x.multiply(ten(k));
    }

    /** over / under * 10^ten to a neighbouring whole number; null when refused. */
    static BigInteger near(BigInteger over, BigInteger under, long ten, int rounding) {
        if (over.signum() == 0) {
            return over;
        }
        if (ten > FAR) {
            return null;
        }
        long t = Math.max(ten, -FAR);
        BigInteger n = t > 0 ? over.multiply(ten(t)) : over;
        BigInteger m = t < 0 ? under.multiply(ten(-t)) : under;
        if (m.signum() < 0) {
            n = n.negate();
            m = m.negate();
        }
        BigInteger[] floor = n.divideAndRemainder(m);
        if (floor[1].signum() < 0) {
            floor[0] = floor[0].subtract(BigInteger.ONE);
            floor[1] = floor[1].add(m);
        }
        if (floor[1].signum() == 0) {
            return floor[0];
        }
        BigInteger low = floor[0];
        BigInteger high = low.add(BigInteger.ONE);
        boolean above = n.signum() > 0;
        BigInteger far = above ? high : low;
        BigInteger close = above ? low : high;
        int half = floor[1].shiftLeft(1).compareTo(m);
        BigInteger nearer = half > 0 ? high : low;
        switch (rounding) {
            case 0: return far;
            case 1: return close;
            case 2: return high;
            case 3: return low;
            case 4: return half == 0 ? far : nearer;
            case 5: return half == 0 ? close : nearer;
            case 6: return half == 0 ? (low.testBit(0) ? high : low) : nearer;
            default: return null;
        }
    }

    /** Times 10^answer the fraction is whole, and with no lesser power; null when it never is. */
    static Long leastScale(BigInteger over, BigInteger under) {
        BigInteger d = under.abs().divide(over.gcd(under));
        int twos = d.getLowestSetBit();
        d = d.shiftRight(twos);
        int fives = 0;
        BigInteger five = BigInteger.valueOf(5);
        while (d.mod(five).signum() == 0) {
            d = d.divide(five);
            fives++;
        }
        if (!d.equals(BigInteger.ONE)) {
            return null;
        }
        long k = Math.max(twos, fives);
        BigInteger x = over.multiply(ten(k)).divide(under);
        while (x.mod(BigInteger.TEN).signum() == 0) {
            x = x.divide(BigInteger.TEN);
            k--;
        }
        return k;
    }

    static BigInteger exactly(BigInteger over, BigInteger under, long k) {
        return k >= 0 ? over.multiply(ten(k)).divide(under) : over.divide(under.multiply(ten(-k)));
    }

    /** The value is over / under at scale base; nearest to base if it has so few digits. */
    boolean toPrecision(int d, BigInteger over, BigInteger under, long base, int p, int rounding) {
        Long least = leastScale(over, under);
        if (least != null) {
            int m = digits(exactly(over, under, least));
            if (m <= p) {
                long k = Math.max(least, Math.min(least + p - m, 0));
                return keep(d, exactly(over, under, k), base + k);
            }
        }
        long k = p - digits(over) + digits(under) + 1;
        BigInteger end = ten(p);
        while (near(over, under, k, 1).abs().compareTo(end) >= 0) {
            k--;
        }
        BigInteger x = near(over, under, k, rounding);
        if (x != null && x.abs().equals(end)) {
            return keep(d, x.divide(BigInteger.TEN), base + k - 1);
        }
        return keep(d, x, base + k);
    }

    boolean put(int d, long x, int s) {
        return keep(d, BigInteger.valueOf(x), s);
    }

    boolean copy(int d, int a, boolean other) {
        return is(a) && keep(d, other ? u[a].negate() : u[a], scale[a]);
    }

    boolean add(int d, int a, int b, boolean take) {
        if (!is(d, a, b)) {
            return false;
        }
        int s = Math.max(scale[a], scale[b]);
        BigInteger x = up(u[a], (long) s - scale[a]);
        BigInteger y = up(u[b], (long) s - scale[b]);
        return x != null && y != null && keep(d, take ? x.subtract(y) : x.add(y), s);
    }

    boolean times(int d, int a, int b) {
        return is(a, b) && keep(d, u[a].multiply(u[b]), (long) scale[a] + scale[b]);
    }

    boolean power(int d, int a, int n) {
        if (!is(d, a) || n < 0) {
            return false;
        }
        long s = (long) scale[a] * n;
        if (u[a].abs().compareTo(BigInteger.ONE) <= 0) {
            return keep(d, n == 0 ? BigInteger.ONE : n % 2 == 0 ? u[a].abs() : u[a], s);
        }
        return (digits(u[a]) - 1L) * n <= MOST && n < FAR && keep(d, u[a].pow(n), s);
    }

    boolean divide(int d, int a, int b, int s, int rounding) {
        if (!is(d, a, b) || rounding < 0 || rounding > 7 || u[b].signum() == 0) {
            return false;
        }
        return keep(d, near(u[a], u[b], (long) s - scale[a] + scale[b], rounding), s);
    }

    boolean ratio(int d, int a, int b, int p, int rounding) {
        if (!is(d, a, b) || p < 0 || p > MOST || rounding < 0 || rounding > 7 || u[b].signum() == 0) {
            return false;
        }
        long t = (long) scale[a] - scale[b];
        if (u[a].signum() == 0) {
            return keep(d, u[a], t);
        }
        if (p > 0) {
            return toPrecision(d, u[a], u[b], t, p, rounding);
        }
        Long least = leastScale(u[a], u[b]);
        if (least == null) {
            return false;
        }
        long k = Math.max(0, least);
        return keep(d, exactly(u[a], u[b], k), t + k);
    }

    boolean whole(int q, int r, int a, int b) {
        if (!is(q, r, a, b) || q == r || u[b].signum() == 0) {
            return false;
        }
        long t = (long) scale[a] - scale[b];
        BigInteger x = u[a];
        BigInteger y = u[b];
        int xs = scale[a];
        int ys = scale[b];
        if (-t > FAR && x.signum() != 0) {
            // Only a quotient that comes out has so many zeros behind it.
            Long least = leastScale(x, y);
            if (least == null) {
                return false;
            }
            long k = Math.max(least, 0);
            BigInteger z = exactly(x, y, k);
            return fits(z, t + k) && keep(q, z, t + k) && keep(r, BigInteger.ZERO, t + k + ys);
        }
        BigInteger z = near(x, y, -t, 1);
        long s = t;
        BigInteger zu;
        if (t >= 0 || z.signum() == 0) {
            zu = up(z, t);
        } else {
            s = 0;
            zu = z;
            while (s > t && zu.mod(BigInteger.TEN).signum() == 0) {
                zu = zu.divide(BigInteger.TEN);
                s--;
            }
        }
        long ps = s + ys;
        long rs = Math.max(xs, ps);
        if (!fits(zu, s)) {
            return false;
        }
        BigInteger left = up(x, rs - xs).subtract(up(zu.multiply(y), rs - ps));
        return fits(left, rs) && keep(q, zu, s) && keep(r, left, rs);
    }

    boolean root(int d, int a, int p, int rounding) {
        if (!is(d, a) || p < 1 || p > MOST || rounding < 0 || rounding > 7 || u[a].signum() < 0) {
            return false;
        }
        int t = scale[a] / 2;
        if (u[a].signum() == 0) {
            return keep(d, u[a], t);
        }
        // Over 10^scale an even scale, then one digit of the root is worth two of the number.
        BigInteger x = scale[a] % 2 == 0 ? u[a] : u[a].multiply(BigInteger.TEN);
        long half = scale[a] % 2 == 0 ? scale[a] / 2 : ((long) scale[a] + 1) / 2;
        int more = Math.max(0, p + 3);
        BigInteger[] found = x.multiply(ten(2L * more)).sqrtAndRemainder();
        // What is not exact lies strictly between two such neighbours: one digit stands for the rest.
        BigInteger z = found[0].multiply(BigInteger.TEN);
        if (found[1].signum() != 0) {
            z = z.add(BigInteger.ONE);
        }
        long s = half + more + 1;
        BigInteger under = ten(Math.abs(s - t));
        return s >= t
                ? toPrecision(d, z, under, t, p, rounding)
                : toPrecision(d, z.multiply(under), BigInteger.ONE, t, p, rounding);
    }

    boolean rescale(int d, int a, int s, int rounding) {
        return is(d, a)
                && rounding >= 0
                && rounding <= 7
                && keep(d, near(u[a], BigInteger.ONE, (long) s - scale[a], rounding), s);
    }

    boolean round(int d, int a, int p, int rounding) {
        if (!is(d, a) || p < 0 || p > MOST || rounding < 0 || rounding > 7) {
            return false;
        }
        if (p == 0 || digits(u[a]) <= p) {
            return keep(d, u[a], scale[a]);
        }
        return toPrecision(d, u[a], BigInteger.ONE, scale[a], p, rounding);
    }

    boolean strip(int d, int a) {
        if (!is(d, a)) {
            return false;
        }
        if (u[a].signum() == 0) {
            return keep(d, u[a], 0);
        }
        long k = leastScale(u[a], BigInteger.ONE);
        return keep(d, exactly(u[a], BigInteger.ONE, k), scale[a] + k);
    }

    boolean move(int d, int a, int n) {
        return is(a) && keep(d, u[a], (long) scale[a] - n);
    }

    int compare(int a, int b) {
        return is(a, b) ? new BigDecimal(u[a], scale[a]).compareTo(new BigDecimal(u[b], scale[b])) : -2;
    }

    int digit(int a, int k) {
        if (!is(a) || k < 0 || k >= digits(u[a])) {
            return -1;
        }
        String all = u[a].abs().toString();
        return all.charAt(all.length() - 1 - k) - '0';
    }

    boolean type(long eight) {
        StringBuilder more = new StringBuilder();
        for (int i = 7; i >= 0; i--) {
            int code = (int) (eight >> 8 * i) & 255;
            if (code > 126) {
                return false;
            }
            if (code > 0) {
                more.append((char) code);
            }
        }
        if (typed.length() + more.length() > 6000) {
            return false;
        }
        typed = typed + more;
        return true;
    }

    boolean read(int d) {
        Matcher found = NUMERAL.matcher(typed);
        typed = "";
        if (!found.matches()) {
            return false;
        }
        String point = found.group(3) == null ? "" : found.group(3);
        BigInteger x = new BigInteger(found.group(1) + found.group(2) + point);
        BigInteger e = found.group(4) == null ? BigInteger.ZERO : new BigInteger(found.group(4));
        BigInteger s = BigInteger.valueOf(point.length()).subtract(e);
        return s.bitLength() < 32 && keep(d, x, s.longValue());
    }

    int write(int a, int how) {
        if (!is(a) || how < 0 || how > 2) {
            return -1;
        }
        BigDecimal x = new BigDecimal(u[a], scale[a]);
        boolean endless = how == 2 && Math.abs((long) scale[a]) > FAR && (scale[a] > 0 || u[a].signum() != 0);
        if (endless) {
            return -1;
        }
        String text = how == 0 ? x.toString() : how == 1 ? x.toEngineeringString() : x.toPlainString();
        if (text.length() > 6000) {
            return -1;
        }
        laid = text;
        return text.length();
    }
}
