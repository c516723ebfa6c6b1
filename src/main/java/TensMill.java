import java.util.Arrays;

/**
 * Eight registers of decimals, each a whole number and a scale, of up to 4096 digits.
 *
 * <p>A call works in rows that belong to the object and puts its result into a register only when
 * nothing refuses it any more; so a refused call changes nothing, and a register may be both taken
 * from and put into.
 */
public final class TensMill {
    private static final int REGISTERS = 8;
    private static final int MOST_DIGITS = 4096;
    private static final int MOST_CHARACTERS = 6000;

    private static final int UP = 0;
    private static final int GREATER = 2;
    private static final int SMALLER = 3;
    private static final int HALF_UP = 4;
    private static final int HALF_DOWN = 5;
    private static final int HALF_EVEN = 6;
    private static final int REFUSE = 7;

    private static final int BY_THREES = 1;
    private static final int PLAIN = 2;

    /** What a cut takes away, measured against half of the lowest digit that stays. */
    private static final int NOTHING = 0;
    private static final int BELOW_HALF = 1;
    private static final int HALF = 2;
    private static final int ABOVE_HALF = 3;

    private static final int BASE = 1000000000;
    private static final int BASE_DIGITS = 9;
    private static final int[] TENS = {
        1, 10, 100, 1000, 10000, 100000, 1000000, 10000000, 100000000, 1000000000
    };

    /** 2 to this power has 4096 digits, and the next power one more. */
    private static final int MOST_FACTORS = 13606;

    /** When so many digits go, all that a register or a quotient has are gone, and the next is 0. */
    private static final int ALL_DIGITS = MOST_DIGITS + 2;

    /** Far beyond every exponent whose scale is an int, far below the end of a long. */
    private static final long ENDLESS = 1000000000000L;

    private final Decimal[] registers = new Decimal[REGISTERS];
    private final Natural work = new Natural();
    private final Natural quotient = new Natural();
    private final Natural spare = new Natural();
    private final Text typed = new Text();
    private final Text laid = new Text();
    private final Numeral numeral = new Numeral();
    private final Layout layout = new Layout();

    public TensMill() {
        for (int i = 0; i < registers.length; i++) {
            registers[i] = new Decimal();
        }
    }

    public boolean put(int d, long u, int scale) {
        work.becomeSizeOf(u);
        return keep(d, work, u < 0, scale);
    }

    public boolean copy(int d, int a, boolean other) {
        if (!isRegister(a)) {
            return false;
        }
        Decimal x = registers[a];
        return keep(d, x.u, x.negative != other, x.scale);
    }

    public boolean add(int d, int a, int b) {
        return sumUp(d, a, b, false);
    }

    public boolean take(int d, int a, int b) {
        return sumUp(d, a, b, true);
    }

    public boolean times(int d, int a, int b) {
        if (!isRegister(a) || !isRegister(b)) {
            return false;
        }
        Decimal x = registers[a];
        Decimal y = registers[b];
        if (!multiply(work, x.u, y.u)) {
            return false;
        }
        return keep(d, work, x.negative != y.negative, (long) x.scale + y.scale);
    }

    public boolean power(int d, int a, int n) {
        if (!isRegister(a) || n < 0) {
            return false;
        }
        Decimal x = registers[a];
        boolean negative = x.negative && (n & 1) != 0;
        long scale = (long) x.scale * n;
        if (n == 0) {
            work.becomeSizeOf(1);
            return keep(d, work, false, 0);
        }
        if (x.u.isZero() || x.u.isOne()) {
            return keep(d, x.u, negative, scale);
        }
        if (n > MOST_FACTORS) {
            return false;
        }
        return keepPower(d, x.u, n, negative, scale);
    }

    public boolean divide(int d, int a, int b, int scale, int rounding) {
        if (!isRegister(a) || !isRegister(b) || !isRounding(rounding)) {
            return false;
        }
        Decimal x = registers[a];
        Decimal y = registers[b];
        if (y.u.isZero()) {
            return false;
        }
        if (x.u.isZero()) {
            return keep(d, x.u, false, scale);
        }
        // One digit more than the scale asks for: the rounding looks at it.
        long wanted = (long) scale - x.scale + y.scale + 1;
        if (x.u.digitCount() - y.u.digitCount() + wanted - 1 > MOST_DIGITS) {
            return false;
        }
        int up = (int) Math.max(wanted, 0);
        boolean more = divideRaised(x.u, up, y.u);
        int drop = (int) Math.min(up - wanted + 1, ALL_DIGITS);
        boolean negative = x.negative != y.negative;
        return cutQuotient(drop, more, negative, rounding) && keep(d, quotient, negative, scale);
    }

    public boolean ratio(int d, int a, int b, int precision, int rounding) {
        if (!isRegister(a) || !isRegister(b) || !isPrecision(precision) || !isRounding(rounding)) {
            return false;
        }
        Decimal x = registers[a];
        Decimal y = registers[b];
        if (y.u.isZero()) {
            return false;
        }
        long wanted = (long) x.scale - y.scale;
        if (x.u.isZero()) {
            return keep(d, x.u, false, wanted);
        }
        if (precision == 0) {
            return keepExactRatio(d, x, y, wanted);
        }
        int up = Math.max(0, precision + 1 + y.u.digitCount() - x.u.digitCount());
        boolean more = divideRaised(x.u, up, y.u);
        boolean negative = x.negative != y.negative;
        return settle(d, negative, wanted + up, more, wanted, precision, rounding);
    }

    public boolean whole(int q, int r, int a, int b) {
        if (!isRegister(q) || !isRegister(r) || !isRegister(a) || !isRegister(b) || q == r) {
            return false;
        }
        Decimal x = registers[a];
        Decimal y = registers[b];
        if (y.u.isZero()) {
            return false;
        }
        long wanted = (long) x.scale - y.scale;
        if (x.u.digitCount() - wanted < y.u.digitCount()) {
            quotient.clear();
            work.become(x.u);
            return keepWhole(q, r, x, y.negative, wanted, x.scale);
        }
        if (wanted > 0) {
            // The digits of both differ by at most 4095, and so this fits an int.
            int up = (int) wanted;
            spare.raise(y.u, up);
            divideRaised(x.u, 0, spare);
            quotient.raise(quotient, up);
            return keepWhole(q, r, x, y.negative, wanted, x.scale);
        }
        return keepWholeOfRaised(q, r, x, y, -wanted);
    }

    public boolean root(int d, int a, int precision, int rounding) {
        if (!isRegister(a) || !isPrecision(precision) || precision == 0 || !isRounding(rounding)) {
            return false;
        }
        Decimal x = registers[a];
        if (x.negative) {
            return false;
        }
        int wanted = x.scale / 2;
        if (x.u.isZero()) {
            return keep(d, x.u, false, wanted);
        }
        // So many limbs hold the root's digits and at least one more, which the rounding looks at.
        int rootLimbs = precision / BASE_DIGITS + 1;
        int up = 2 * BASE_DIGITS * rootLimbs - x.u.digitCount();
        if (((x.scale ^ up) & 1) != 0) {
            up--;
        }
        boolean more = false;
        if (up >= 0) {
            work.raise(x.u, up);
        } else {
            work.become(x.u);
            more = work.cut(-up, false) != NOTHING;
        }
        work.takeRoot(quotient, spare);
        more = more || !work.isZero();
        return settle(d, false, ((long) x.scale + up) / 2, more, wanted, precision, rounding);
    }

    public boolean rescale(int d, int a, int scale, int rounding) {
        if (!isRegister(a) || !isRounding(rounding)) {
            return false;
        }
        Decimal x = registers[a];
        long up = (long) scale - x.scale;
        if (x.u.isZero()) {
            return keep(d, x.u, false, scale);
        }
        if (up >= 0) {
            if (x.u.digitCount() + up > MOST_DIGITS) {
                return false;
            }
            work.raise(x.u, (int) up);
            return keep(d, work, x.negative, scale);
        }
        quotient.become(x.u);
        int drop = (int) Math.min(-up, ALL_DIGITS);
        return cutQuotient(drop, false, x.negative, rounding) && keep(d, quotient, x.negative, scale);
    }

    public boolean round(int d, int a, int precision, int rounding) {
        if (!isRegister(a) || !isPrecision(precision) || !isRounding(rounding)) {
            return false;
        }
        Decimal x = registers[a];
        if (precision == 0 || x.u.digitCount() <= precision) {
            return keep(d, x.u, x.negative, x.scale);
        }
        quotient.become(x.u);
        return keepRounded(d, x.negative, x.scale, false, precision, rounding);
    }

    public boolean strip(int d, int a) {
        if (!isRegister(a)) {
            return false;
        }
        Decimal x = registers[a];
        if (x.u.isZero()) {
            return keep(d, x.u, false, 0);
        }
        int zeros = x.u.endingZeros();
        work.become(x.u);
        work.drop(zeros);
        return keep(d, work, x.negative, (long) x.scale - zeros);
    }

    public boolean move(int d, int a, int n) {
        if (!isRegister(a)) {
            return false;
        }
        Decimal x = registers[a];
        return keep(d, x.u, x.negative, (long) x.scale - n);
    }

    public int compare(int a, int b) {
        if (!isRegister(a) || !isRegister(b)) {
            return -2;
        }
        Decimal x = registers[a];
        Decimal y = registers[b];
        int order = x.signum() - y.signum();
        if (order != 0) {
            return order > 0 ? 1 : -1;
        }
        return x.negative ? -orderOfSizes(x, y) : orderOfSizes(x, y);
    }

    public int sign(int a) {
        return isRegister(a) ? registers[a].signum() : -2;
    }

    public int precision(int a) {
        return isRegister(a) ? registers[a].u.digitCount() : -1;
    }

    public int scale(int a) {
        return isRegister(a) ? registers[a].scale : 0;
    }

    public int digit(int a, int k) {
        if (!isRegister(a) || k < 0 || k >= registers[a].u.digitCount()) {
            return -1;
        }
        return registers[a].u.digitAt(k);
    }

    public boolean type(long eight) {
        int characters = 0;
        for (int shift = 56; shift >= 0; shift -= 8) {
            int code = (int) (eight >>> shift) & 255;
            if (code > 126) {
                return false;
            }
            if (code != 0) {
                characters++;
            }
        }
        if (typed.length + characters > MOST_CHARACTERS) {
            return false;
        }
        typed.makeRoom(typed.length + characters);
        for (int shift = 56; shift >= 0; shift -= 8) {
            int code = (int) (eight >>> shift) & 255;
            if (code != 0) {
                typed.append(code);
            }
        }
        return true;
    }

    public boolean read(int d) {
        boolean understood = numeral.parse(typed);
        if (understood) {
            work.becomeDigits(typed, numeral.start, numeral.end);
        }
        typed.length = 0;
        return understood && keep(d, work, numeral.negative, numeral.behind - numeral.exponent);
    }

    public int write(int a, int how) {
        if (!isRegister(a) || how < 0 || how > PLAIN) {
            return -1;
        }
        Decimal x = registers[a];
        layout.plan(x, how);
        if (layout.length() > MOST_CHARACTERS) {
            return -1;
        }
        layout.lay(x.u, laid);
        return laid.length;
    }

    public int characterAt(int k) {
        return laid.codeAt(k);
    }

    private static boolean isRegister(int a) {
        return a >= 0 && a < REGISTERS;
    }

    private static boolean isRounding(int rounding) {
        return rounding >= UP && rounding <= REFUSE;
    }

    private static boolean isPrecision(int precision) {
        return precision >= 0 && precision <= MOST_DIGITS;
    }

    private static boolean fits(Natural u, long scale) {
        return u.digitCount() <= MOST_DIGITS && scale == (int) scale;
    }

    private boolean keep(int d, Natural u, boolean negative, long scale) {
        if (!isRegister(d) || !fits(u, scale)) {
            return false;
        }
        registers[d].become(u, negative, (int) scale);
        return true;
    }

    private boolean sumUp(int d, int a, int b, boolean other) {
        if (!isRegister(a) || !isRegister(b)) {
            return false;
        }
        Decimal x = registers[a];
        Decimal y = registers[b];
        int scale = Math.max(x.scale, y.scale);
        if (!align(work, x, scale) || !align(spare, y, scale)) {
            return false;
        }
        boolean otherNegative = y.negative != other;
        if (x.negative == otherNegative) {
            quotient.becomeSum(work, spare);
            return keep(d, quotient, x.negative, scale);
        }
        if (Natural.order(work, spare) >= 0) {
            work.subtract(spare);
            return keep(d, work, x.negative, scale);
        }
        spare.subtract(work);
        return keep(d, spare, otherNegative, scale);
    }

    /**
     * One digit more than a register holds is let through: the other number, which has no more
     * digits than that, may still bring the sum down. With two digits more it no longer can.
     */
    private static boolean align(Natural to, Decimal x, int scale) {
        if (x.u.isZero()) {
            to.clear();
            return true;
        }
        long up = (long) scale - x.scale;
        if (x.u.digitCount() + up > MOST_DIGITS + 1) {
            return false;
        }
        to.raise(x.u, (int) up);
        return true;
    }

    private static boolean multiply(Natural to, Natural x, Natural y) {
        if (!x.isZero() && !y.isZero() && x.digitCount() + y.digitCount() - 1 > MOST_DIGITS) {
            return false;
        }
        to.becomeProduct(x, y);
        return true;
    }

    /** From the exponent's highest bit down, so that no product is above the result. */
    private boolean keepPower(int d, Natural x, int n, boolean negative, long scale) {
        if ((x.digitCount() - 1L) * n >= MOST_DIGITS) {
            return false;
        }
        Natural held = work;
        Natural next = quotient;
        held.become(x);
        for (int bit = 30 - Integer.numberOfLeadingZeros(n); bit >= 0; bit--) {
            if (!multiply(next, held, held)) {
                return false;
            }
            Natural squared = next;
            next = held;
            held = squared;
            if ((n >> bit & 1) != 0) {
                if (!multiply(next, held, x)) {
                    return false;
                }
                Natural product = next;
                next = held;
                held = product;
            }
        }
        return keep(d, held, negative, scale);
    }

    /** Leaves the remainder in work; true when there is one. */
    private boolean divideRaised(Natural x, int up, Natural y) {
        work.raise(x, up);
        work.reduce(quotient, y);
        return !work.isZero();
    }

    /** Takes the lowest digits off the quotient, beyond which there may be more; false if refused. */
    private boolean cutQuotient(int drop, boolean more, boolean negative, int rounding) {
        int lost = quotient.cut(drop, more);
        if (lost != NOTHING && rounding == REFUSE) {
            return false;
        }
        if (goesFarther(rounding, lost, negative, quotient.isOdd())) {
            quotient.addOne();
        }
        return true;
    }

    private static boolean goesFarther(int rounding, int lost, boolean negative, boolean odd) {
        if (lost == NOTHING) {
            return false;
        }
        switch (rounding) {
            case UP:
                return true;
            case GREATER:
                return !negative;
            case SMALLER:
                return negative;
            case HALF_UP:
                return lost >= HALF;
            case HALF_DOWN:
                return lost == ABOVE_HALF;
            case HALF_EVEN:
                return lost == ABOVE_HALF || (lost == HALF && odd);
            default:
                return false;
        }
    }

    /** For a quotient that has more digits than the precision. */
    private boolean keepRounded(
            int d, boolean negative, long scale, boolean more, int precision, int rounding) {
        int drop = quotient.digitCount() - precision;
        if (!cutQuotient(drop, more, negative, rounding)) {
            return false;
        }
        if (quotient.digitCount() > precision) {
            quotient.drop(1);
            drop++;
        }
        return keep(d, quotient, negative, scale - drop);
    }

    /**
     * For a quotient that has more digits than the precision and a scale; more tells that its true
     * value has digits beyond. If the value has so few digits, the scale nearest to the wanted one.
     */
    private boolean settle(
            int d,
            boolean negative,
            long scale,
            boolean more,
            long wanted,
            int precision,
            int rounding) {
        int zeros = quotient.endingZeros();
        int digits = quotient.digitCount() - zeros;
        if (more || digits > precision) {
            return keepRounded(d, negative, scale, more, precision, rounding);
        }
        long least = scale - zeros;
        long most = least + precision - digits;
        long nearest = Math.max(least, Math.min(most, wanted));
        // It has more digits than the precision now, so that it is never raised.
        quotient.drop((int) (scale - nearest));
        return keep(d, quotient, negative, nearest);
    }

    /**
     * Raises as far as a quotient of 4096 digits can need: when the division still leaves something,
     * a longer quotient would be refused even if it came out.
     */
    private boolean keepExactRatio(int d, Decimal x, Decimal y, long wanted) {
        int up = MOST_DIGITS + y.u.digitCount() - x.u.digitCount();
        if (divideRaised(x.u, up, y.u)) {
            return false;
        }
        int drop = Math.min(up, quotient.endingZeros());
        quotient.drop(drop);
        return keep(d, quotient, x.negative != y.negative, wanted + up - drop);
    }

    /** For a scale of x not above that of y: it is x raised by so many digits that y divides. */
    private boolean keepWholeOfRaised(int q, int r, Decimal x, Decimal y, long raised) {
        // A remainder that is not 0 leaves the quotient fewer ending zeros than y has digits. So a
        // quotient above 4096 digits and those of y fits only if the division comes out, and then
        // it comes out when x is raised only so far.
        int most = MOST_DIGITS + 2 * y.u.digitCount() - x.u.digitCount();
        int up = (int) Math.min(raised, most);
        boolean more = divideRaised(x.u, up, y.u);
        if (quotient.isZero()) {
            work.become(x.u);
            return keepWhole(q, r, x, y.negative, -raised, x.scale);
        }
        long left = raised - up;
        if (more && left > 0) {
            return false;
        }
        long zeros = Math.min(raised, quotient.endingZeros() + left);
        int drop = (int) (zeros - left);
        quotient.drop(drop);
        work.drop(drop);
        return keepWhole(q, r, x, y.negative, -zeros, y.scale - zeros);
    }

    /** The quotient goes to q, what is left in work to r; x gives what is left its sign. */
    private boolean keepWhole(
            int q, int r, Decimal x, boolean divisorNegative, long scale, long leftScale) {
        boolean negative = x.negative;
        return fits(work, leftScale)
                && keep(q, quotient, negative != divisorNegative, scale)
                && keep(r, work, negative, leftScale);
    }

    private int orderOfSizes(Decimal x, Decimal y) {
        if (x.u.isZero() || y.u.isZero()) {
            return 0;
        }
        int digits = x.u.digitCount();
        int otherDigits = y.u.digitCount();
        long before = (long) digits - x.scale;
        long otherBefore = (long) otherDigits - y.scale;
        if (before != otherBefore) {
            return before > otherBefore ? 1 : -1;
        }
        int most = Math.max(digits, otherDigits);
        work.raise(x.u, most - digits);
        spare.raise(y.u, most - otherDigits);
        return Natural.order(work, spare);
    }

    /** A whole number with its sign, and its scale. */
    private static final class Decimal {
        private final Natural u = new Natural();
        private boolean negative;
        private int scale;

        int signum() {
            if (u.isZero()) {
                return 0;
            }
            return negative ? -1 : 1;
        }

        void become(Natural size, boolean below, int newScale) {
            u.become(size);
            negative = below && !u.isZero();
            scale = newScale;
        }
    }

    /**
     * A whole number not below 0 in limbs of nine digits, the lowest first. The highest limb in use
     * is not 0, so that 0 has none. Decimal limbs make the many shifts by digits cheap.
     */
    private static final class Natural {
        private int[] limbs = new int[4];
        private int count;

        boolean isZero() {
            return count == 0;
        }

        boolean isOne() {
            return count == 1 && limbs[0] == 1;
        }

        boolean isOdd() {
            return count > 0 && (limbs[0] & 1) != 0;
        }

        int digitCount() {
            if (count == 0) {
                return 1;
            }
            int top = limbs[count - 1];
            int digits = 1;
            while (digits < BASE_DIGITS && top >= TENS[digits]) {
                digits++;
            }
            return (count - 1) * BASE_DIGITS + digits;
        }

        int digitAt(int k) {
            if (k < 0 || k / BASE_DIGITS >= count) {
                return 0;
            }
            return limbs[k / BASE_DIGITS] / TENS[k % BASE_DIGITS] % 10;
        }

        /** How many zeros the number ends in; 0 for 0. */
        int endingZeros() {
            int low = 0;
            while (low < count && limbs[low] == 0) {
                low++;
            }
            if (low == count) {
                return 0;
            }
            int zeros = 0;
            while (zeros < BASE_DIGITS - 1 && limbs[low] % TENS[zeros + 1] == 0) {
                zeros++;
            }
            return low * BASE_DIGITS + zeros;
        }

        boolean hasDigitsBelow(int k) {
            if (k <= 0) {
                return false;
            }
            int limb = k / BASE_DIGITS;
            for (int i = 0; i < limb && i < count; i++) {
                if (limbs[i] != 0) {
                    return true;
                }
            }
            return limb < count && limbs[limb] % TENS[k % BASE_DIGITS] != 0;
        }

        void clear() {
            count = 0;
        }

        void become(Natural other) {
            makeRoom(other.count);
            System.arraycopy(other.limbs, 0, limbs, 0, other.count);
            count = other.count;
        }

        void becomeSizeOf(long value) {
            count = 0;
            long left = value;
            // The sign is taken off limb by limb: the least long has no opposite.
            while (count < 3 && left != 0) {
                limbs[count] = Math.abs((int) (left % BASE));
                left /= BASE;
                count++;
            }
        }

        /** The digits in a stretch of a text, in which a point may stand. */
        void becomeDigits(Text text, int start, int end) {
            int most = (end - start) / BASE_DIGITS + 1;
            makeRoom(most);
            emptyLimbs(most);
            int k = 0;
            for (int i = end - 1; i >= start; i--) {
                int code = text.codeAt(i);
                if (code != '.') {
                    limbs[k / BASE_DIGITS] += (code - '0') * TENS[k % BASE_DIGITS];
                    k++;
                }
            }
            count = most;
            trim();
        }

        /** Becomes from times 10^k; from the top down, so that from may be this number itself. */
        void raise(Natural from, int k) {
            if (from.count == 0 || k < 0) {
                count = 0;
                return;
            }
            int up = k / BASE_DIGITS;
            int factor = TENS[k % BASE_DIGITS];
            int n = from.count;
            makeRoom(n + up + 1);
            int above = 0;
            for (int i = n - 1; i >= 0; i--) {
                long product = (long) from.limbs[i] * factor;
                int carry = (int) (product / BASE);
                limbs[i + up + 1] = above + carry;
                above = (int) (product - (long) carry * BASE);
            }
            limbs[up] = above;
            emptyLimbs(up);
            count = n + up + 1;
            trim();
        }

        /** Takes off the k lowest digits. */
        void drop(int k) {
            if (k <= 0) {
                return;
            }
            int down = k / BASE_DIGITS;
            if (down >= count) {
                count = 0;
                return;
            }
            int low = TENS[k % BASE_DIGITS];
            int high = TENS[BASE_DIGITS - k % BASE_DIGITS];
            int n = count - down;
            for (int i = 0; i < n - 1; i++) {
                limbs[i] = limbs[i + down] / low + limbs[i + down + 1] % low * high;
            }
            limbs[n - 1] = limbs[count - 1] / low;
            count = n;
            trim();
        }

        /** Takes off the k lowest digits, below which there may be more; what that takes away. */
        int cut(int k, boolean more) {
            if (k <= 0) {
                return more ? BELOW_HALF : NOTHING;
            }
            int next = digitAt(k - 1);
            boolean rest = more || hasDigitsBelow(k - 1);
            drop(k);
            if (next == 0 && !rest) {
                return NOTHING;
            }
            if (next == 5 && !rest) {
                return HALF;
            }
            return next < 5 ? BELOW_HALF : ABOVE_HALF;
        }

        void addOne() {
            int i = 0;
            while (i < count && limbs[i] == BASE - 1) {
                limbs[i] = 0;
                i++;
            }
            if (i < count) {
                limbs[i]++;
                return;
            }
            makeRoom(count + 1);
            limbs[count] = 1;
            count++;
        }

        static int order(Natural x, Natural y) {
            if (x.count != y.count) {
                return x.count > y.count ? 1 : -1;
            }
            for (int i = x.count - 1; i >= 0; i--) {
                if (x.limbs[i] != y.limbs[i]) {
                    return x.limbs[i] > y.limbs[i] ? 1 : -1;
                }
            }
            return 0;
        }

        void becomeSum(Natural x, Natural y) {
            int n = Math.max(x.count, y.count);
            makeRoom(n + 1);
            int carry = 0;
            for (int i = 0; i < n; i++) {
                int sum = carry;
                sum += i < x.count ? x.limbs[i] : 0;
                sum += i < y.count ? y.limbs[i] : 0;
                carry = sum >= BASE ? 1 : 0;
                limbs[i] = carry == 0 ? sum : sum - BASE;
            }
            limbs[n] = carry;
            count = n + 1;
            trim();
        }

        /** Takes away y, which is not above this number. */
        void subtract(Natural y) {
            int borrow = 0;
            for (int i = 0; i < count && (i < y.count || borrow != 0); i++) {
                int left = limbs[i] - borrow - (i < y.count ? y.limbs[i] : 0);
                borrow = left < 0 ? 1 : 0;
                limbs[i] = borrow == 0 ? left : left + BASE;
            }
            trim();
        }

        /** Neither x nor y is this number itself. */
        void becomeProduct(Natural x, Natural y) {
            int n = x.count + y.count;
            makeRoom(n);
            emptyLimbs(n);
            for (int i = 0; i < x.count; i++) {
                if (x.limbs[i] != 0) {
                    addTimes(y.limbs, y.count, x.limbs[i], i);
                }
            }
            count = n;
            trim();
        }

        /** Adds times the row's limbs to those further up by shift, where the one above all is 0. */
        private void addTimes(int[] row, int n, long times, int shift) {
            int[] sums = limbs;
            long carry = 0;
            for (int i = 0; i < n; i++) {
                long sum = row[i] * times + sums[i + shift] + carry;
                carry = sum / BASE;
                sums[i + shift] = (int) (sum - carry * BASE);
            }
            sums[n + shift] = (int) carry;
        }

        /** Becomes what a division by the divisor, which is not 0, leaves. */
        void reduce(Natural quotient, Natural divisor) {
            quotient.count = 0;
            int n = divisor.count;
            if (n == 0 || count < n) {
                return;
            }
            if (n == 1) {
                reduceByLimb(quotient, divisor.limbs[0]);
                return;
            }
            int steps = count - n + 1;
            makeRoom(count + 1);
            limbs[count] = 0;
            quotient.makeRoom(steps);
            for (int at = steps - 1; at >= 0; at--) {
                int guess = guessLimb(divisor.limbs, n, at + n);
                quotient.limbs[at] = takeLimb(divisor.limbs, n, at, guess);
            }
            quotient.count = steps;
            quotient.trim();
            count = n;
            trim();
        }

        private void reduceByLimb(Natural quotient, int divisor) {
            if (divisor == 0) {
                return;
            }
            quotient.makeRoom(count);
            long left = 0;
            for (int i = count - 1; i >= 0; i--) {
                long head = left * BASE + limbs[i];
                long limb = head / divisor;
                quotient.limbs[i] = (int) limb;
                left = head - limb * divisor;
            }
            quotient.count = count;
            quotient.trim();
            limbs[0] = (int) left;
            count = 1;
            trim();
        }

        /**
         * The quotient of the three limbs from top down by the divisor's two highest: the true limb,
         * or one above it. The divisor's other limbs make its two highest, a number not below the
         * base, greater by less than 1, and so a quotient below the base less by less than 1.
         */
        private int guessLimb(int[] divisor, int n, int top) {
            long high = divisor[n - 1];
            if (high == 0) {
                return 0;
            }
            long head = (long) limbs[top] * BASE + limbs[top - 1];
            return refine(head / high, head % high, high, divisor[n - 2], limbs[top - 2]);
        }

        /** Takes off a quotient by a divisor's high limb what the limb below that one costs. */
        private static int refine(long guess, long left, long high, long low, long next) {
            long excess = guess * low - left * BASE - next;
            long both = high * BASE + low;
            long limb = guess;
            if (excess > 0 && both > 0) {
                limb -= (excess + both - 1) / both;
            }
            return (int) Math.min(limb, BASE - 1);
        }

        /** Takes away the divisor so many times, or once less if that is too much; how many times. */
        private int takeLimb(int[] divisor, int n, int at, int guess) {
            int limb = guess;
            long top = limbs[at + n] - subtractTimes(divisor, 0, n, limb, at);
            if (top < 0) {
                limb--;
                top += addBack(divisor, 0, n, at);
            }
            limbs[at + n] = (int) top;
            return limb;
        }

        /** Takes times the row's limbs away from those further up by shift; what is still to take. */
        private long subtractTimes(int[] row, int from, int to, long times, int shift) {
            int[] rest = limbs;
            long carry = 0;
            for (int i = from; i < to; i++) {
                long product = row[i] * times + carry;
                carry = product / BASE;
                int left = rest[i + shift] - (int) (product - carry * BASE);
                if (left < 0) {
                    left += BASE;
                    carry++;
                }
                rest[i + shift] = left;
            }
            return carry;
        }

        private long addBack(int[] row, int from, int to, int shift) {
            int[] sums = limbs;
            long carry = 0;
            for (int i = from; i < to; i++) {
                long sum = (long) sums[i + shift] + row[i] + carry;
                carry = sum / BASE;
                sums[i + shift] = (int) (sum - carry * BASE);
            }
            return carry;
        }

        /**
         * Becomes what its root leaves. The number has an even count of limbs, and its upper two have
         * 17 or 18 digits together, so that the root's highest limb is large enough to guess by.
         *
         * <p>As on paper, a limb of the root at a time; twice is the root so far, doubled, with a
         * highest limb that may be up to twice the base.
         */
        void takeRoot(Natural root, Natural twice) {
            root.count = 0;
            int n = count / 2;
            if (n == 0 || count != 2 * n) {
                return;
            }
            root.makeRoom(n);
            twice.makeRoom(n);
            twice.count = 0;
            long head = (long) limbs[count - 1] * BASE + limbs[count - 2];
            long first = rootOf(head);
            long left = head - first * first;
            limbs[count - 1] = (int) (left / BASE);
            limbs[count - 2] = (int) (left % BASE);
            root.limbs[n - 1] = (int) first;
            twice.limbs[n - 1] = (int) (2 * first);
            for (int j = n - 2; j >= 0; j--) {
                int limb = takeRootLimb(twice.limbs, n, j, guessRootLimb(twice.limbs, n, j));
                root.limbs[j] = limb;
                twice.limbs[j] = 2 * limb;
                if (2 * limb >= BASE) {
                    twice.limbs[j] -= BASE;
                    twice.limbs[j + 1]++;
                }
            }
            root.count = n;
            root.trim();
            trim();
        }

        /** Newton's way from above: the first value that does not go down is the root. */
        private static long rootOf(long square) {
            long root = BASE;
            for (int step = 0; step < 64 && root > 0; step++) {
                long next = (root + square / root) / 2;
                if (next >= root) {
                    return root;
                }
                root = next;
            }
            return root;
        }

        private int guessRootLimb(int[] twice, int n, int j) {
            int top = n + j;
            long high = twice[n - 1];
            if (high <= 0) {
                return 0;
            }
            long above = (long) limbs[top + 1] * BASE + limbs[top];
            long head = above * BASE + limbs[top - 1];
            if (j == n - 2) {
                return (int) Math.min(head / high, BASE - 1);
            }
            return refine(head / high, head % high, high, twice[n - 2], limbs[top - 2]);
        }

        /** Takes away limb times (twice, and limb behind it), with fewer if that is too much. */
        private int takeRootLimb(int[] twice, int n, int j, int guess) {
            int limb = guess;
            twice[j] = limb;
            long top = (long) limbs[n + j + 1] * BASE + limbs[n + j];
            top -= subtractTimes(twice, j, n, limb, j);
            for (int tries = 0; tries < 16 && top < 0; tries++) {
                // The squares of neighbours differ by twice the greater one less 1.
                twice[j] = 2 * limb - 1;
                top += addBack(twice, j, n, j);
                limb--;
            }
            limbs[n + j] = (int) (top % BASE);
            limbs[n + j + 1] = (int) (top / BASE);
            return limb;
        }

        private void emptyLimbs(int n) {
            for (int i = 0; i < n && i < limbs.length; i++) {
                limbs[i] = 0;
            }
        }

        private void trim() {
            while (count > 0 && limbs[count - 1] == 0) {
                count--;
            }
        }

        /** Doubles at least, so that a number that grows by little is not copied each time. */
        private void makeRoom(int n) {
            if (n > limbs.length) {
                limbs = Arrays.copyOf(limbs, Math.max(n, 2 * limbs.length));
            }
        }
    }

    /** A row of characters' codes. */
    private static final class Text {
        private byte[] codes = new byte[16];
        private int length;

        int codeAt(int k) {
            return k >= 0 && k < length ? codes[k] : -1;
        }

        void makeRoom(int n) {
            if (n > codes.length) {
                codes = Arrays.copyOf(codes, Math.max(n, 2 * codes.length));
            }
        }

        void append(int code) {
            makeRoom(length + 1);
            codes[length] = (byte) code;
            length++;
        }

        boolean hasSignAt(int k) {
            int code = codeAt(k);
            return code == '+' || code == '-';
        }

        boolean hasDigitAt(int k) {
            int code = codeAt(k);
            return code >= '0' && code <= '9';
        }
    }

    /** What a typed text says: where its digits stand, and what its sign, point and exponent are. */
    private static final class Numeral {
        private boolean negative;
        private int start;
        private int end;
        private int behind;
        private long exponent;

        boolean parse(Text text) {
            negative = text.codeAt(0) == '-';
            start = text.hasSignAt(0) ? 1 : 0;
            exponent = 0;
            if (!findDigits(text)) {
                return false;
            }
            if (end == text.length) {
                return true;
            }
            int mark = text.codeAt(end);
            return (mark == 'e' || mark == 'E') && findExponent(text, end + 1);
        }

        private boolean findDigits(Text text) {
            int digits = 0;
            boolean pointed = false;
            behind = 0;
            end = start;
            for (int i = start; i < text.length; i++) {
                if (text.hasDigitAt(i)) {
                    digits++;
                    behind += pointed ? 1 : 0;
                } else if (text.codeAt(i) == '.' && !pointed) {
                    pointed = true;
                } else {
                    break;
                }
                end = i + 1;
            }
            return digits > 0;
        }

        private boolean findExponent(Text text, int at) {
            int from = text.hasSignAt(at) ? at + 1 : at;
            for (int i = from; i < text.length; i++) {
                if (!text.hasDigitAt(i)) {
                    return false;
                }
                exponent = Math.min(exponent * 10 + text.codeAt(i) - '0', ENDLESS);
            }
            if (text.codeAt(at) == '-') {
                exponent = -exponent;
            }
            return from < text.length;
        }
    }

    /** How a decimal is laid out: zeros before and behind its digits, a point, an exponent. */
    private static final class Layout {
        private boolean negative;
        private int digits;
        private long front;
        private long back;
        private long beforePoint;
        private long exponent;

        void plan(Decimal x, int how) {
            negative = x.negative;
            digits = x.u.digitCount();
            long highest = digits - 1L - x.scale;
            if (how == PLAIN || (x.scale >= 0 && highest >= -6)) {
                planPlain(x);
                return;
            }
            front = 0;
            if (x.u.isZero()) {
                back = how == BY_THREES ? Math.floorMod(-highest, 3L) : 0;
                beforePoint = 1;
                exponent = highest + back;
                return;
            }
            long more = how == BY_THREES ? Math.floorMod(highest, 3L) : 0;
            beforePoint = 1 + more;
            back = Math.max(0, beforePoint - digits);
            exponent = highest - more;
        }

        private void planPlain(Decimal x) {
            exponent = 0;
            if (x.scale >= 0) {
                front = Math.max(0, x.scale + 1L - digits);
                back = 0;
                beforePoint = front + digits - x.scale;
                return;
            }
            front = 0;
            back = x.u.isZero() ? 0 : -(long) x.scale;
            beforePoint = digits + back;
        }

        long length() {
            long all = front + digits + back;
            long length = all + (negative ? 1 : 0) + (all > beforePoint ? 1 : 0);
            if (exponent != 0) {
                length += 3;
                for (long unit = highestUnit(); unit > 1; unit /= 10) {
                    length++;
                }
            }
            return length;
        }

        void lay(Natural u, Text text) {
            text.length = 0;
            text.makeRoom((int) length());
            if (negative) {
                text.append('-');
            }
            long all = front + digits + back;
            for (int i = 0; i < all; i++) {
                if (i == beforePoint) {
                    text.append('.');
                }
                // Places outside the digits are zeros, and digitAt answers 0 for them.
                text.append('0' + u.digitAt((int) (front + digits - 1 - i)));
            }
            layExponent(text);
        }

        private void layExponent(Text text) {
            if (exponent == 0) {
                return;
            }
            text.append('E');
            text.append(exponent < 0 ? '-' : '+');
            long size = Math.abs(exponent);
            for (long unit = highestUnit(); unit > 0; unit /= 10) {
                text.append('0' + (int) (size / unit % 10));
            }
        }

        /** The power of ten at the exponent's first digit. */
        private long highestUnit() {
            long size = Math.abs(exponent);
            long unit = 1;
            while (unit < ENDLESS && size / unit >= 10) {
                unit *= 10;
            }
            return unit;
        }
    }
}
