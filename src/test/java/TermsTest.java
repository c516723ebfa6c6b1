/** The sentences under "Terms", which hold for all calls: each has a test of its own here. */
public final class TermsTest {
    private static final int MAX = Integer.MAX_VALUE;
    private static final int MIN = Integer.MIN_VALUE;
    private static final int[] NONE = {-1, 8, 9, 256, -8, MAX, MIN};
    private static final int[] NO_PRECISIONS = {-1, 4097, 65536, MAX, MIN};

    /** A value and what it comes to with scale 0 by each rounding, from 0 to 7. */
    private static final String[][] ROUNDED = {
        {"2.0", "2", "2", "2", "2", "2", "2", "2", "2"},
        {"-2.0", "-2", "-2", "-2", "-2", "-2", "-2", "-2", "-2"},
        {"0.0", "0", "0", "0", "0", "0", "0", "0", "0"},
        {"2.1", "3", "2", "3", "2", "2", "2", "2", "no"},
        {"-2.1", "-3", "-2", "-2", "-3", "-2", "-2", "-2", "no"},
        {"2.9", "3", "2", "3", "2", "3", "3", "3", "no"},
        {"-2.9", "-3", "-2", "-2", "-3", "-3", "-3", "-3", "no"},
        {"2.5", "3", "2", "3", "2", "3", "2", "2", "no"},
        {"-2.5", "-3", "-2", "-2", "-3", "-3", "-2", "-2", "no"},
        {"3.5", "4", "3", "4", "3", "4", "3", "4", "no"},
        {"-3.5", "-4", "-3", "-3", "-4", "-4", "-3", "-4", "no"},
        {"2.49999999999999999999", "3", "2", "3", "2", "2", "2", "2", "no"},
        {"-2.49999999999999999999", "-3", "-2", "-2", "-3", "-2", "-2", "-2", "no"},
        {"2.50000000000000000001", "3", "2", "3", "2", "3", "3", "3", "no"},
        {"-2.50000000000000000001", "-3", "-2", "-2", "-3", "-3", "-3", "-3", "no"},
        {"2.00000000000000000001", "3", "2", "3", "2", "2", "2", "2", "no"},
        {"-2.99999999999999999999", "-3", "-2", "-2", "-3", "-3", "-3", "-3", "no"},
        {"0.5", "1", "0", "1", "0", "1", "0", "0", "no"},
        {"-0.5", "-1", "0", "0", "-1", "-1", "0", "0", "no"},
        {"0.05", "1", "0", "1", "0", "0", "0", "0", "no"},
        {"-0.05", "-1", "0", "0", "-1", "0", "0", "0", "no"},
        {"0.95", "1", "0", "1", "0", "1", "1", "1", "no"},
        {"-0.95", "-1", "0", "0", "-1", "-1", "-1", "-1", "no"},
        {"1.5", "2", "1", "2", "1", "2", "1", "2", "no"},
        {"10.5", "11", "10", "11", "10", "11", "10", "10", "no"},
        {"-10.5", "-11", "-10", "-10", "-11", "-11", "-10", "-10", "no"},
        {"999999999.5", "1000000000", "999999999", "1000000000", "999999999", "1000000000", "999999999", "1000000000", "no"},
        {"123456789.4", "123456790", "123456789", "123456790", "123456789", "123456789", "123456789", "123456789", "no"}
    };

    private TermsTest() {}

    public static void main(String[] args) {
        registersAreZeroToSeven();
        othersAreNoRegisters();
        othersAreNoRegistersForZerosToo();
        othersAreNoRegistersToAsk();
        valueIsUByAPowerOfTen();
        digitsHaveNoZerosInFront();
        zeroHasOneDigit();
        precisionIsAtMost4096();
        precisionAbove4096IsRefused();
        precisionIsThatOfTheResultAlone();
        aWholeOneStays();
        roundingUp();
        roundingDown();
        roundingToTheGreater();
        roundingToTheSmaller();
        roundingHalfUp();
        roundingHalfDown();
        roundingHalfEven();
        roundingRefused();
        besideHalfWayAndWholeOnes();
        toAScale();
        toAPrecisionWithoutRounding();
        toAPrecisionWithSoManyDigits();
        toAPrecisionTheNextPowerOfTen();
        roundingsAreZeroToSeven();
        precisionsAreZeroTo4096();
        scaleAboveAllIntsIsRefused();
        scaleBelowAllIntsIsRefused();
        scaleIsNeverWrappedAround();
        allAreTakenFirst();
        allAreTakenFirstByWhole();
        Bench.end();
    }

    /** "REGISTERS are 0 .. 7": every call takes each of them, in each place. */
    private static void registersAreZeroToSeven() {
        for (int good = 0; good < 8; good++) {
            for (int place = 0; place < 36; place++) {
                TensMill x = Bench.mill("4", "2", "3", "5", "6", "7", "8", "9");
                Bench.due("register " + good + " in place " + place, true, inPlace(x, place, good));
            }
        }
    }

    /** "refused, changes nothing and answers false when a register .. is none of these". */
    private static void othersAreNoRegisters() {
        for (int none : NONE) {
            for (int place = 0; place < 36; place++) {
                int p = place;
                Trial.refused("register " + none + " in place " + place, x -> inPlace(x, p, none), "4", "2", "3", "5");
            }
        }
    }

    private static boolean inPlace(TensMill x, int place, int r) {
        int other = r == 0 ? 1 : 0;
        switch (place) {
            case 0: return x.put(r, 12, 3);
            case 1: return x.copy(r, 1, true);
            case 2: return x.copy(0, r, false);
            case 3: return x.add(r, 1, 2);
            case 4: return x.add(0, r, 2);
            case 5: return x.add(0, 1, r);
            case 6: return x.take(r, 1, 2);
            case 7: return x.take(0, r, 2);
            case 8: return x.take(0, 1, r);
            case 9: return x.times(r, 1, 2);
            case 10: return x.times(0, r, 2);
            case 11: return x.times(0, 1, r);
            case 12: return x.power(r, 1, 2);
            case 13: return x.power(0, r, 2);
            case 14: return x.power(r, 1, 0);
            case 15: return x.power(0, r, 0);
            case 16: return x.divide(r, 1, 2, 1, 1);
            case 17: return x.divide(0, r, 2, 1, 1);
            case 18: return x.divide(0, 1, r, 1, 1);
            case 19: return x.ratio(r, 1, 2, 5, 1);
            case 20: return x.ratio(0, r, 2, 5, 1);
            case 21: return x.ratio(0, 1, r, 5, 1);
            case 22: return x.ratio(r, 0, 1, 0, 1);
            case 23: return x.whole(r, other, 2, 3);
            case 24: return x.whole(other, r, 2, 3);
            case 25: return x.whole(0, 1, r, 3);
            case 26: return x.whole(0, 1, 2, r);
            case 27: return x.root(r, 1, 5, 1);
            case 28: return x.root(0, r, 5, 1);
            case 29: return x.rescale(r, 1, 1, 1);
            case 30: return x.rescale(0, r, 1, 1);
            case 31: return x.round(r, 1, 1, 1);
            case 32: return x.round(0, r, 1, 1);
            case 33: return x.strip(r, 1) && x.strip(0, r);
            case 34: return x.move(r, 1, 1);
            default: return x.move(0, r, 1);
        }
    }

    /** The same sentence where a 0 makes the answer plain before all is looked at. */
    private static void othersAreNoRegistersForZerosToo() {
        for (int none : NONE) {
            String what = "with 0, register " + none + ": ";
            Trial.refused(what + "add d", x -> x.add(none, 2, 2), "4", "2", "0");
            Trial.refused(what + "times d", x -> x.times(none, 2, 1), "4", "2", "0");
            Trial.refused(what + "times a", x -> x.times(0, none, 2), "4", "2", "0");
            Trial.refused(what + "times b", x -> x.times(0, 2, none), "4", "2", "0");
            Trial.refused(what + "power d", x -> x.power(none, 2, 3), "4", "2", "0");
            Trial.refused(what + "divide d", x -> x.divide(none, 2, 1, 1, 1), "4", "2", "0");
            Trial.refused(what + "divide b", x -> x.divide(0, 2, none, 1, 1), "4", "2", "0");
            Trial.refused(what + "ratio d", x -> x.ratio(none, 2, 1, 1, 1), "4", "2", "0");
            Trial.refused(what + "ratio b", x -> x.ratio(0, 2, none, 1, 1), "4", "2", "0");
            Trial.refused(what + "ratio d, exactly", x -> x.ratio(none, 2, 1, 0, 1), "4", "2", "0");
            Trial.refused(what + "whole q", x -> x.whole(none, 0, 2, 1), "4", "2", "0");
            Trial.refused(what + "whole r", x -> x.whole(0, none, 2, 1), "4", "2", "0");
            Trial.refused(what + "whole b", x -> x.whole(0, 1, 2, none), "4", "2", "0");
            Trial.refused(what + "whole q and r", x -> x.whole(none, none, 0, 1), "4", "2", "0");
            Trial.refused(what + "whole q of a small a", x -> x.whole(none, 0, 1, 0), "4", "2", "0");
            Trial.refused(what + "whole r of a small a", x -> x.whole(0, none, 1, 0), "4", "2", "0");
            Trial.refused(what + "root d", x -> x.root(none, 2, 5, 1), "4", "2", "0");
            Trial.refused(what + "rescale d", x -> x.rescale(none, 2, 5, 1), "4", "2", "0");
            Trial.refused(what + "round d", x -> x.round(none, 2, 5, 1), "4", "2", "0");
            Trial.refused(what + "round d, never rounded", x -> x.round(none, 0, 0, 1), "4", "2", "0");
            Trial.refused(what + "strip d", x -> x.strip(none, 2), "4", "2", "0");
            Trial.refused(what + "strip d", x -> x.strip(none, 0), "4", "2", "0");
            Trial.refused(what + "strip a", x -> x.strip(0, none), "4", "2", "0");
        }
    }

    /** The answers that promises 16 to 20 and 23 tell for what is no register. */
    private static void othersAreNoRegistersToAsk() {
        for (int none : NONE) {
            String what = " of register " + none;
            Trial.answers("compare" + what, -2, x -> x.compare(none, 0), "4");
            Trial.answers("compare with it" + what, -2, x -> x.compare(0, none), "4");
            Trial.answers("compare with itself" + what, -2, x -> x.compare(none, none), "4");
            Trial.answers("sign" + what, -2, x -> x.sign(none), "4");
            Trial.answers("precision" + what, -1, x -> x.precision(none), "4");
            Trial.answers("scale" + what, 0, x -> x.scale(none), "4.5", "4.5", "4.5", "4.5", "4.5", "4.5", "4.5", "4.5");
            Trial.answers("digit" + what, -1, x -> x.digit(none, 0), "4");
            Trial.answers("write" + what, -1, x -> x.write(none, 0), "4");
        }
    }

    /** "its VALUE is U / 10^S", for scales below, at and above 0. */
    private static void valueIsUByAPowerOfTen() {
        Trial.answers("25@1 is 2.5", 0, x -> x.put(1, 25, 1) ? x.compare(0, 1) : 9, "2.5", "25e-1");
        Trial.answers("25@-1 is 250", 0, x -> x.compare(0, 1), "250", "25E1");
        Trial.answers("25@0 is 25", 0, x -> x.compare(0, 1), "25", "25E0");
        Trial.answers("1@1 is below 1", -1, x -> x.compare(0, 1), "0.1", "1");
        Trial.answers("1@-1 is above 1", 1, x -> x.compare(0, 1), "1E1", "1");
    }

    /** "The DIGITS of a decimal are those of U without its sign, without zeros in front". */
    private static void digitsHaveNoZerosInFront() {
        Trial.answers("precision of 000120", 3, x -> x.precision(0), "000120");
        Trial.answers("highest digit", 1, x -> x.digit(0, 2), "000120");
        Trial.answers("none above it", -1, x -> x.digit(0, 3), "000120");
        Trial.answers("precision of 0.0012", 2, x -> x.precision(0), "0.0012");
        Trial.answers("precision of -12", 2, x -> x.precision(0), "-12");
        Trial.gives("what is left of a long one", "1@0", 7, x -> x.take(7, 0, 1), "10^4095", "9x4095");
        Trial.gives("what a cut leaves", "1@-4095", 7, x -> x.rescale(7, 0, -4095, 7), "10^4095");
        for (int n = 1; n <= 30; n++) {
            int digits = n;
            Trial.answers("precision of 9x" + n, n, x -> x.precision(0), "9x" + n);
            Trial.answers("precision of 1 and " + n + " zeros", n + 1, x -> x.precision(0), "10^" + n);
            Trial.answers("its highest digit", 1, x -> x.digit(0, digits), "10^" + n);
        }
    }

    /** "(0 has one, 0)". */
    private static void zeroHasOneDigit() {
        Trial.answers("precision of 0", 1, x -> x.precision(0), "0.000");
        Trial.answers("precision of a new one", 1, x -> x.precision(5));
        Trial.answers("digit 0 of 0", 0, x -> x.digit(0, 0), "000");
        Trial.answers("digit 1 of 0", -1, x -> x.digit(0, 1), "000");
        Trial.gives("0 in one digit", "0@3", 7, x -> x.round(7, 0, 1, 7), "0.000");
    }

    /** "its PRECISION is how many they are, at most 4096": a result of just 4096 digits is held. */
    private static void precisionIsAtMost4096() {
        String[] nines = {"9x4096@3", "0.001", "0.000"};
        Trial.gives("add", "9999..4096..9999@3", 7, x -> x.add(7, 0, 2), nines);
        Trial.gives("add below 0", "-9999..4096..9999@3", 7, x -> x.add(7, 0, 2), "-9x4096@3", "0.001", "0.000");
        Trial.gives("take", "9999..4096..9998@3", 7, x -> x.take(7, 0, 1), nines);
        Trial.gives("add by a carry", "1000..4096..0000@0", 7, x -> x.add(7, 0, 1), "9x4095", "1");
        Trial.gives("add with zeros", "1000..4096..0000@4095", 7, x -> x.add(7, 0, 1), "1", "0E-4095");
        Trial.gives("times", "1000..4096..0000@0", 7, x -> x.times(7, 0, 1), "10^2048", "10^2047");
        Trial.gives("times", "9999..4096..0001@0", 7, x -> x.times(7, 0, 0), "9x2048");
        Trial.gives("power", "1000..4096..0000@0", 7, x -> x.power(7, 0, 4095), "10");
        Trial.gives("divide", "1000..4096..0000@4095", 7, x -> x.divide(7, 0, 0, 4095, 7), "3");
        Trial.gives("divide", "3333..4096..3333@4096", 7, x -> x.divide(7, 0, 1, 4096, 4), "1", "3");
        Trial.gives("ratio", "3333..4096..3333@4096", 7, x -> x.ratio(7, 0, 1, 4096, 4), "1", "3");
        Trial.gives("ratio, exactly", "1000..4096..0000@4095", 7, x -> x.ratio(7, 0, 1, 0, 4), "10^4095@4095", "1");
        Trial.givesBoth("whole", "3333..4096..3333@0", "1@0", 7, 6, x -> x.whole(7, 6, 0, 1), "1E4096", "3");
        Trial.gives("root", "1414..4096..2079@4095", 7, x -> x.root(7, 0, 4096, 1), "2");
        Trial.gives("rescale", "1000..4096..0000@4095", 7, x -> x.rescale(7, 0, 4095, 7), "1");
        Trial.gives("round", "9999..4096..9999@3", 7, x -> x.round(7, 0, 4096, 7), nines);
        Trial.gives("round by a carry", "1000..4095..0000@1", 7, x -> x.round(7, 0, 4095, 0), nines);
        TensMill x = new TensMill();
        Bench.due("read", true, Bench.read(x, 0, "9".repeat(4096)));
        Bench.due("read", "9999..4096..9999@0", Trial.glance(x, 0));
    }

    /** "refused .. when .. the result's precision would be above 4096", by one digit and by far. */
    private static void precisionAbove4096IsRefused() {
        String[] nines = {"9x4096@3", "0.001", "-0.001"};
        Trial.refused("add by a carry", x -> x.add(7, 0, 1), nines);
        Trial.refused("add below 0", x -> x.add(7, 0, 1), "-9x4096@3", "-0.001");
        Trial.refused("add of long ones", x -> x.add(7, 0, 0), "5x4096");
        Trial.refused("take by a carry", x -> x.take(7, 0, 2), nines);
        Trial.refused("add with zeros", x -> x.add(7, 0, 1), "1", "0E-4096");
        Trial.refused("add with far zeros", x -> x.add(7, 0, 1), "1E2147483648", "0E-2147483647");
        Trial.refused("add of a far one", x -> x.add(7, 0, 1), "1E2147483648", "1E-2147483647");
        Trial.refused("take of a far one", x -> x.take(7, 0, 1), "1E-2147483647", "1E2147483648");
        Trial.refused("times", x -> x.times(7, 0, 0), "10^2048");
        Trial.refused("times by a carry", x -> x.times(7, 0, 1), "9x2048", "9x2049");
        Trial.refused("power", x -> x.power(7, 0, 4096), "10");
        Trial.refused("power by far", x -> x.power(7, 0, MAX), "-2");
        Trial.refused("divide", x -> x.divide(7, 0, 0, 4096, 7), "3");
        Trial.refused("divide", x -> x.divide(7, 0, 1, 4097, 4), "1", "3");
        Trial.refused("divide by far", x -> x.divide(7, 0, 1, MAX, 4), "1E2147483648", "3E-2147483647");
        Trial.refused("ratio, exactly", x -> x.ratio(7, 0, 1, 0, 4), "1", "2^5861");
        Trial.refused("whole", x -> x.whole(7, 6, 0, 1), "1E4097", "3");
        Trial.refused("whole of a long one", x -> x.whole(7, 6, 0, 1), "9x4096@-1", "7");
        Trial.refused("whole by far", x -> x.whole(7, 6, 0, 1), "1E2147483648", "3E-2147483647");
        Trial.refused("rescale", x -> x.rescale(7, 0, 4096, 7), "1");
        Trial.refused("rescale by far", x -> x.rescale(7, 0, MAX, 7), "1E2147483648");
        TensMill x = new TensMill();
        Bench.due("read", false, Bench.read(x, 0, "1" + "0".repeat(4096)));
        Bench.due("read changes nothing", "0@0", Trial.glance(x, 0));
    }

    /** Only the result's digits count, not those of numbers on the way to it. */
    private static void precisionIsThatOfTheResultAlone() {
        Trial.gives("take to one digit", "1@1", 7, x -> x.take(7, 0, 1), "10^4095", "9x4096@1");
        Trial.gives("add to one digit", "-1@1", 7, x -> x.add(7, 0, 1), "-10^4095", "9x4096@1");
        Trial.gives("4096 nines left", "9999..4096..9999@1", 7, x -> x.take(7, 0, 1), "10^4095", "0.1");
        Trial.refused("4097 nines left", x -> x.take(7, 0, 1), "10^4095", "0.01");
        Trial.refused("4097 digits left", x -> x.take(7, 0, 1), "2x4096", "2x4096@1");
        Trial.gives("many dropped digits", "1@0", 7, x -> x.divide(7, 0, 1, 0, 4), "9x4096", "8x4096");
        Trial.gives("0 with a far scale", "0@" + MAX, 7, x -> x.add(7, 0, 1), "0E2147483648", "0E-2147483647");
        Trial.gives("0 by a far one", "0@" + MAX, 7, x -> x.divide(7, 0, 1, MAX, 7), "0", "3E-2147483647");
    }

    /** "a value x that lies between two neighbouring whole numbers goes to one of them; a whole one stays". */
    private static void aWholeOneStays() {
        for (int way = 0; way < 8; way++) {
            int w = way;
            for (String whole : new String[] {"2.0", "-2.0", "0.0", "7.000000000000000000000", "9.0"}) {
                String due = whole.substring(0, whole.indexOf('.')) + "@0";
                Trial.gives(whole + " by " + way, due, 7, x -> x.rescale(7, 0, 0, w), whole);
                Trial.gives(whole + " / 1 by " + way, due, 7, x -> x.divide(7, 0, 1, 0, w), whole, "1");
                Trial.gives(whole + " / 1 in 1 by " + way, due.equals("0@0") ? "0@1" : due, 7, x -> x.ratio(7, 0, 1, 1, w), whole, "1");
                Trial.gives(whole + " in 1 by " + way, due.equals("0@0") ? "0@1" : due, 7, x -> x.round(7, 0, 1, w), whole);
            }
            Trial.gives("root of 4 by " + way, "2@0", 7, x -> x.root(7, 0, 1, w), "4.00");
        }
    }

    /** "0 UP: to the one farther from 0". */
    private static void roundingUp() {
        rounded(0);
    }

    /** "1 DOWN: to the one nearer to 0". */
    private static void roundingDown() {
        rounded(1);
    }

    /** "2: to the greater one". */
    private static void roundingToTheGreater() {
        rounded(2);
    }

    /** "3: to the smaller one". */
    private static void roundingToTheSmaller() {
        rounded(3);
    }

    /** "4, 5, 6: to the nearer one; when x is half way, 4 as UP". */
    private static void roundingHalfUp() {
        rounded(4);
    }

    /** "4, 5, 6: to the nearer one; when x is half way, .. 5 as DOWN". */
    private static void roundingHalfDown() {
        rounded(5);
    }

    /** "4, 5, 6: to the nearer one; when x is half way, .. 6 to the even one". */
    private static void roundingHalfEven() {
        rounded(6);
    }

    /** "7: it is refused". */
    private static void roundingRefused() {
        rounded(7);
    }

    /** The table's column for a rounding, by every call that rounds. */
    private static void rounded(int way) {
        for (String[] row : ROUNDED) {
            rounded(row, way);
        }
    }

    private static void rounded(String[] row, int way) {
        String value = row[0];
        String due = row[1 + way].equals("no") ? "no" : row[1 + way] + "@0";
        String what = value + " by rounding " + way;
        Trial.givesOrNot("rescale, " + what, due, x -> x.rescale(7, 0, 0, way), value);
        Trial.givesOrNot("divide by 1, " + what, due, x -> x.divide(7, 0, 1, 0, way), value, "1");
        Trial.givesOrNot("divide by -7, " + what, due, x -> divideTimes(x, 0, way), value, "-7");
        Trial.givesOrNot("divide by 3E9, " + what, due, x -> divideTimes(x, 0, way), value, "3000000001");
        int digits = value.replace("-", "").indexOf('.');
        if (value.replace("-", "").charAt(0) == '0' || row[1 + way].replace("-", "").length() > digits) {
            return;
        }
        Trial.givesOrNot("round, " + what, due, x -> x.round(7, 0, digits, way), value);
        Trial.givesOrNot("ratio, " + what, due, x -> x.ratio(7, 0, 1, digits, way), value, "1");
        Trial.givesOrNot("ratio by -7, " + what, due, x -> ratioTimes(x, digits, way), value, "-7");
        Trial.givesOrNot("ratio by 3E9, " + what, due, x -> ratioTimes(x, digits, way), value, "3000000001");
        if (value.charAt(0) != '-') {
            Trial.givesOrNot("root, " + what, due, x -> rootOfSquare(x, digits, way), value);
        }
    }

    /** However far down the digit stands that makes x lie beside a whole one or beside half way. */
    private static void besideHalfWayAndWholeOnes() {
        for (int n = 0; n <= 40; n++) {
            String zeros = "0".repeat(n);
            String[][] dues = {
                {"2." + zeros + "1", "3", "2", "3", "2", "2", "2", "2", "no"},
                {"2.4" + "9".repeat(n) + "9", "3", "2", "3", "2", "2", "2", "2", "no"},
                {"2.5" + zeros, "3", "2", "3", "2", "3", "2", "2", "no"},
                {"2.5" + zeros + "1", "3", "2", "3", "2", "3", "3", "3", "no"},
                {"2.9" + "9".repeat(n), "3", "2", "3", "2", "3", "3", "3", "no"},
                {"2." + zeros + "0", "2", "2", "2", "2", "2", "2", "2", "2"}
            };
            for (String[] row : dues) {
                for (int way = 0; way < 8; way++) {
                    rounded(row, way);
                }
            }
        }
    }

    /** Register 0 times 1, divided by 1; what it uses beside 7 it puts back. */
    private static boolean divideTimes(TensMill x, int scale, int way) {
        boolean done = x.times(6, 0, 1) && x.divide(7, 6, 1, scale, way);
        return x.put(6, 0, 0) && done;
    }

    private static boolean ratioTimes(TensMill x, int digits, int way) {
        boolean done = x.times(6, 0, 1) && x.ratio(7, 6, 1, digits, way);
        return x.put(6, 0, 0) && done;
    }

    private static boolean rootOfSquare(TensMill x, int digits, int way) {
        boolean done = x.times(6, 0, 0) && x.root(7, 6, digits, way);
        return x.put(6, 0, 0) && done;
    }

    /** "TO A SCALE s: the whole number to which value * 10^s is rounded, with scale s". */
    private static void toAScale() {
        String[][] dues = {
            {"1.25", "1", "12@1"}, {"1.25", "2", "125@2"}, {"1.25", "4", "12500@4"}, {"1.25", "0", "1@0"}, {"1.25", "-1", "0@-1"},
            {"-125", "-1", "-12@-1"}, {"-125", "-2", "-1@-2"}, {"-875", "-3", "-1@-3"}, {"-125", "-3", "0@-3"}, {"50", "-2", "0@-2"},
            {"51", "-2", "1@-2"}, {"0.00", "7", "0@7"}, {"0.00", "" + MAX, "0@" + MAX}, {"0.00", "" + MIN, "0@" + MIN},
            {"125", "" + MIN, "0@" + MIN}, {"2000000000", "-9", "2@-9"}, {"2500000000", "-9", "2@-9"}, {"3500000000", "-9", "4@-9"},
            {"1E-2147483647", "" + MAX, "1@" + MAX}, {"1E2147483648", "" + MIN, "1@" + MIN}, {"6E2147483647", "" + MIN, "1@" + MIN}
        };
        for (String[] due : dues) {
            int scale = Integer.parseInt(due[1]);
            String what = due[0] + " to scale " + scale;
            Trial.gives(what, due[2], 7, x -> x.rescale(7, 0, scale, 6), due[0]);
            Trial.gives(what + " by 1", due[2], 7, x -> x.divide(7, 0, 1, scale, 6), due[0], "1");
        }
    }

    /** "when a decimal of at most p digits has just that value, no rounding". */
    private static void toAPrecisionWithoutRounding() {
        for (int way : new int[] {0, 7}) {
            Trial.gives("round", "125@1", 7, x -> x.round(7, 0, 3, way), "12.500");
            Trial.gives("round below 0", "-125@1", 7, x -> x.round(7, 0, 3, way), "-12.500");
            Trial.gives("round of a short one", "125@1", 7, x -> x.round(7, 0, 9, way), "12.5");
            Trial.gives("ratio", "125@1", 7, x -> x.ratio(7, 0, 1, 3, way), "37.5", "3");
            Trial.gives("ratio of more zeros", "125@1", 7, x -> x.ratio(7, 0, 1, 3, way), "37.500000000000", "3");
            Trial.gives("root", "125@1", 7, x -> x.root(7, 0, 3, way), "156.25");
        }
        Trial.refused("round", x -> x.round(7, 0, 2, 7), "12.500");
        Trial.refused("ratio", x -> x.ratio(7, 0, 1, 2, 7), "37.5", "3");
        Trial.refused("root", x -> x.root(7, 0, 2, 7), "156.25");
        Trial.refused("round of a far digit", x -> x.round(7, 0, 4095, 7), "9x4096");
        Trial.refused("ratio of a far digit", x -> x.ratio(7, 0, 1, 4095, 7), "9x4096", "1");
        Trial.refused("root of a far digit", x -> rootOfSquare(x, 2047, 7), "9x2048");
        Trial.gives("root with the far digit", "9999..2048..9999@0", 7, x -> rootOfSquare(x, 2048, 7), "9x2048");
    }

    /** "otherwise to the greatest scale at which the result has p digits". */
    private static void toAPrecisionWithSoManyDigits() {
        Trial.gives("round", "1234@2", 7, x -> x.round(7, 0, 4, 1), "12.345");
        Trial.gives("round of a great one", "12@-3", 7, x -> x.round(7, 0, 2, 1), "12345");
        Trial.gives("round of a small one", "12@10", 7, x -> x.round(7, 0, 2, 1), "0.0000000012345");
        Trial.gives("round to zeros", "100@2", 7, x -> x.round(7, 0, 3, 1), "1.00001");
        Trial.gives("ratio", "66667@5", 7, x -> x.ratio(7, 0, 1, 5, 4), "2", "3");
        Trial.gives("ratio of a great one", "66@-4", 7, x -> x.ratio(7, 0, 1, 2, 1), "2E6", "3");
        Trial.gives("ratio to zeros", "10000@4", 7, x -> x.ratio(7, 0, 1, 5, 1), "3.00001", "3");
        Trial.gives("ratio of a longer divisor", "100@4", 7, x -> x.ratio(7, 0, 1, 3, 1), "1", "99.99");
        Trial.gives("root", "14142@4", 7, x -> x.root(7, 0, 5, 1), "2");
        Trial.gives("root of a great one", "14@-2", 7, x -> x.root(7, 0, 2, 1), "2E6");
        Trial.gives("root to zeros", "10000@4", 7, x -> x.root(7, 0, 5, 1), "1.00001");
        Trial.gives("root of an odd scale", "3162@4", 7, x -> x.root(7, 0, 4, 1), "0.1");
    }

    /** "or, if with that scale it comes to be 10^p, 10^(p - 1) with a scale one less". */
    private static void toAPrecisionTheNextPowerOfTen() {
        Trial.gives("round", "100@0", 7, x -> x.round(7, 0, 3, 4), "99.96");
        Trial.gives("round below 0", "-100@0", 7, x -> x.round(7, 0, 3, 3), "-99.91");
        Trial.gives("round in one digit", "1@-1", 7, x -> x.round(7, 0, 1, 6), "9.5");
        Trial.gives("round, not so far", "999@1", 7, x -> x.round(7, 0, 3, 5), "99.95");
        Trial.gives("ratio", "100@0", 7, x -> x.ratio(7, 0, 1, 3, 4), "699.72", "7");
        Trial.gives("ratio in one digit", "-1@-1", 7, x -> x.ratio(7, 0, 1, 1, 0), "-29", "3");
        Trial.gives("ratio, not so far", "999@1", 7, x -> x.ratio(7, 0, 1, 3, 1), "699.72", "7");
        Trial.gives("root", "100@0", 7, x -> x.root(7, 0, 3, 4), "9992.0016");
        Trial.gives("root in one digit", "1@-1", 7, x -> x.root(7, 0, 1, 0), "99");
        Trial.gives("root, not so far", "999@1", 7, x -> x.root(7, 0, 3, 3), "9992.0016");
        Trial.gives("4096 digits", "1000..4096..0000@2047", 7, x -> x.root(7, 0, 4096, 0), "9x4096");
        Trial.gives("4096 digits, not so far", "9999..4096..9999@2048", 7, x -> x.root(7, 0, 4096, 4), "9x4096");
    }

    /** "refused .. when .. a rounding is none of these", where nothing is to be rounded too. */
    private static void roundingsAreZeroToSeven() {
        for (int none : NONE) {
            String what = "rounding " + none + ": ";
            String[] numbers = {"2.25", "1", "0"};
            Trial.refused(what + "divide", x -> x.divide(7, 0, 1, 0, none), numbers);
            Trial.refused(what + "divide, exactly", x -> x.divide(7, 0, 1, 2, none), numbers);
            Trial.refused(what + "divide of 0", x -> x.divide(7, 2, 1, 2, none), numbers);
            Trial.refused(what + "ratio", x -> x.ratio(7, 0, 1, 1, none), numbers);
            Trial.refused(what + "ratio, exactly", x -> x.ratio(7, 0, 1, 9, none), numbers);
            Trial.refused(what + "ratio without precision", x -> x.ratio(7, 0, 1, 0, none), numbers);
            Trial.refused(what + "ratio of 0", x -> x.ratio(7, 2, 1, 9, none), numbers);
            Trial.refused(what + "root", x -> x.root(7, 0, 1, none), numbers);
            Trial.refused(what + "root, exactly", x -> x.root(7, 0, 9, none), numbers);
            Trial.refused(what + "root of 0", x -> x.root(7, 2, 9, none), numbers);
            Trial.refused(what + "rescale", x -> x.rescale(7, 0, 0, none), numbers);
            Trial.refused(what + "rescale, exactly", x -> x.rescale(7, 0, 9, none), numbers);
            Trial.refused(what + "rescale of 0", x -> x.rescale(7, 2, 9, none), numbers);
            Trial.refused(what + "round", x -> x.round(7, 0, 1, none), numbers);
            Trial.refused(what + "round, exactly", x -> x.round(7, 0, 9, none), numbers);
            Trial.refused(what + "round without precision", x -> x.round(7, 0, 0, none), numbers);
            Trial.refused(what + "round of 0", x -> x.round(7, 2, 9, none), numbers);
        }
    }

    /** "refused .. when .. a precision is not 0 .. 4096", and at the ends of it is not. */
    private static void precisionsAreZeroTo4096() {
        String[] numbers = {"2.25", "1", "0"};
        for (int none : NO_PRECISIONS) {
            String what = "precision " + none + ": ";
            Trial.refused(what + "ratio", x -> x.ratio(7, 0, 1, none, 4), numbers);
            Trial.refused(what + "ratio of 0", x -> x.ratio(7, 2, 1, none, 4), numbers);
            Trial.refused(what + "root", x -> x.root(7, 0, none, 4), numbers);
            Trial.refused(what + "root of 0", x -> x.root(7, 2, none, 4), numbers);
            Trial.refused(what + "round", x -> x.round(7, 0, none, 4), numbers);
            Trial.refused(what + "round of 0", x -> x.round(7, 2, none, 4), numbers);
        }
        for (int good : new int[] {3, 4095, 4096}) {
            String what = "precision " + good + ": ";
            Trial.gives(what + "ratio", "225@2", 7, x -> x.ratio(7, 0, 1, good, 7), numbers);
            Trial.gives(what + "root", "15@1", 7, x -> x.root(7, 0, good, 7), numbers);
            Trial.gives(what + "round", "225@2", 7, x -> x.round(7, 0, good, 7), numbers);
        }
        Trial.gives("precision 0: ratio", "225@2", 7, x -> x.ratio(7, 0, 1, 0, 7), numbers);
        Trial.gives("precision 0: round", "225@2", 7, x -> x.round(7, 0, 0, 7), numbers);
        Trial.gives("precision 1: ratio", "2@0", 7, x -> x.ratio(7, 0, 1, 1, 1), numbers);
        Trial.gives("precision 1: root", "1@0", 7, x -> x.root(7, 0, 1, 1), numbers);
        Trial.gives("precision 1: round", "2@0", 7, x -> x.round(7, 0, 1, 1), numbers);
    }

    /** "refused .. when .. its scale no int": the greatest is held, one above it is not. */
    private static void scaleAboveAllIntsIsRefused() {
        for (String u : new String[] {"7", "-7", "0"}) {
            String top = u + "E-2147483647";
            String held = u + "@" + MAX;
            Trial.gives("times", held, 7, x -> x.times(7, 0, 1), top, "1");
            Trial.refused("times", x -> x.times(7, 0, 1), top, "0.1");
            Trial.gives("move", held, 7, x -> x.move(7, 0, 0), top);
            Trial.refused("move", x -> x.move(7, 0, -1), top);
            Trial.gives("ratio", held, 7, x -> x.ratio(7, 0, 1, 9, 4), top, "1");
            Trial.refused("ratio", x -> x.ratio(7, 0, 1, 9, 4), top, "1E1");
            Trial.gives("ratio, exactly", held, 7, x -> x.ratio(7, 0, 1, 0, 4), top, "1");
            Trial.refused("ratio, exactly", x -> x.ratio(7, 0, 1, 0, 4), top, "1E1");
            String due = u.equals("0") ? "0@" : u + "@";
            Trial.givesBoth("whole", "0@" + MAX, due + MAX, 7, 6, x -> x.whole(7, 6, 0, 1), top, "1");
            Trial.refused("whole", x -> x.whole(7, 6, 0, 1), top, "1E1");
        }
        Trial.gives("power", "1@" + MAX, 7, x -> x.power(7, 0, MAX), "0.1");
        Trial.gives("power", "0@" + (MAX - 1), 7, x -> x.power(7, 0, MAX / 2), "0.00");
        Trial.refused("power", x -> x.power(7, 0, MAX / 2 + 1), "0.00");
        Trial.refused("power", x -> x.power(7, 0, MAX / 2 + 1), "0.01");
        Trial.refused("power of a longer one", x -> x.power(7, 0, 2), "3E-1073741824");
        Trial.gives("power of a longer one", "9@" + (MAX - 1), 7, x -> x.power(7, 0, 2), "3E-1073741823");
        Trial.refused("ratio, rounded", x -> x.ratio(7, 0, 1, 2, 4), "1E-2147483646", "3");
        Trial.gives("ratio, rounded", "33@" + MAX, 7, x -> x.ratio(7, 0, 1, 2, 4), "1E-2147483645", "3");
    }

    /** The same sentence at the other end. */
    private static void scaleBelowAllIntsIsRefused() {
        for (String u : new String[] {"7", "-7", "0"}) {
            String low = u + "E2147483648";
            String held = u + "@" + MIN;
            Trial.gives("times", held, 7, x -> x.times(7, 0, 1), low, "1");
            Trial.refused("times", x -> x.times(7, 0, 1), low, "1E1");
            Trial.gives("move", held, 7, x -> x.move(7, 0, 0), low);
            Trial.refused("move", x -> x.move(7, 0, 1), low);
            Trial.gives("ratio", held, 7, x -> x.ratio(7, 0, 1, 9, 4), low, "1");
            Trial.refused("ratio", x -> x.ratio(7, 0, 1, 9, 4), low, "0.1");
            Trial.gives("ratio, exactly", held, 7, x -> x.ratio(7, 0, 1, 0, 4), low, "1");
            Trial.refused("ratio, exactly", x -> x.ratio(7, 0, 1, 0, 4), low, "0.1");
            Trial.givesBoth("whole", held, "0@" + MIN, 7, 6, x -> x.whole(7, 6, 0, 1), low, "1");
            Trial.refused("whole", x -> x.whole(7, 6, 0, 1), low, "0.1");
        }
        Trial.gives("power", "1@" + MIN, 7, x -> x.power(7, 0, 1 << 30), "1E2");
        Trial.gives("power", "0@" + MIN, 7, x -> x.power(7, 0, 1 << 30), "0E2");
        Trial.refused("power", x -> x.power(7, 0, (1 << 30) + 1), "1E2");
        Trial.refused("power", x -> x.power(7, 0, (1 << 30) + 1), "0E2");
        Trial.gives("power of a longer one", "9@" + MIN, 7, x -> x.power(7, 0, 2), "3E1073741824");
        Trial.refused("power of a longer one", x -> x.power(7, 0, 2), "3E1073741825");
        Trial.gives("strip", "1@" + MIN, 7, x -> x.strip(7, 0), "10E2147483647");
        Trial.refused("strip", x -> x.strip(7, 0), "10E2147483648");
        Trial.gives("round", "1@" + MIN, 7, x -> x.round(7, 0, 1, 4), "12E2147483647");
        Trial.refused("round", x -> x.round(7, 0, 1, 4), "12E2147483648");
        Trial.refused("round without rounding", x -> x.round(7, 0, 1, 7), "10E2147483648");
        Trial.refused("round by the carry", x -> x.round(7, 0, 1, 4), "96E2147483647");
        Trial.gives("ratio, rounded", "7@" + MIN, 7, x -> x.ratio(7, 0, 1, 1, 4), "20E2147483648", "3");
        Trial.refused("ratio, rounded", x -> x.ratio(7, 0, 1, 1, 4), "200E2147483648", "3");
    }

    /** A scale that would come back to an int by a wrap-around is none. */
    private static void scaleIsNeverWrappedAround() {
        Trial.refused("power, 2^32", x -> x.power(7, 0, 65536), "0E-65536");
        Trial.refused("power, -2^32", x -> x.power(7, 0, 65536), "1E65536");
        Trial.refused("power, near 2^62", x -> x.power(7, 0, MAX), "1E2147483648");
        Trial.refused("power, near 2^62", x -> x.power(7, 0, MAX), "0E-2147483647");
        Trial.refused("times, near 2^32", x -> x.times(7, 0, 0), "1E-2147483647");
        Trial.refused("times, -2^32", x -> x.times(7, 0, 0), "1E2147483648");
        Trial.refused("move, up", x -> x.move(7, 0, MIN), "1");
        Trial.refused("ratio of the ends", x -> x.ratio(7, 0, 1, 5, 4), "1E-2147483647", "1E2147483648");
        Trial.refused("ratio of the ends", x -> x.ratio(7, 0, 1, 5, 4), "1E2147483648", "1E-2147483647");
        Trial.refused("whole of the ends", x -> x.whole(7, 6, 0, 1), "1E-2147483647", "1E2147483648");
        Trial.refused("whole of the ends", x -> x.whole(7, 6, 0, 1), "1E2147483648", "1E-2147483647");
        Trial.gives("times of both ends", "1@-1", 7, x -> x.times(7, 0, 1), "1E-2147483647", "1E2147483648");
        Trial.gives("ratio of an end by itself", "1@0", 7, x -> x.ratio(7, 0, 0, 5, 4), "1E2147483648");
        Trial.gives("divide of the ends", "1@" + MIN, 7, x -> x.divide(7, 0, 1, MIN, 0), "1E-2147483647", "1E2147483648");
        Trial.gives("rescale of an end", "1@" + MIN, 7, x -> x.rescale(7, 0, MIN, 0), "1E-2147483647");
    }

    /** "A register out of which it takes a decimal may be one into which it puts one: all are taken first". */
    private static void allAreTakenFirst() {
        String[] n = {"12.50", "-4"};
        Trial.gives("copy", "-1250@2", 0, x -> x.copy(0, 0, true), n);
        Trial.gives("add to a", "850@2", 0, x -> x.add(0, 0, 1), n);
        Trial.gives("add to b", "850@2", 1, x -> x.add(1, 0, 1), n);
        Trial.gives("add to both", "2500@2", 0, x -> x.add(0, 0, 0), n);
        Trial.gives("take from a", "1650@2", 0, x -> x.take(0, 0, 1), n);
        Trial.gives("take to b", "1650@2", 1, x -> x.take(1, 0, 1), n);
        Trial.gives("take from both", "0@2", 0, x -> x.take(0, 0, 0), n);
        Trial.gives("times to a", "-5000@2", 0, x -> x.times(0, 0, 1), n);
        Trial.gives("times to b", "-5000@2", 1, x -> x.times(1, 0, 1), n);
        Trial.gives("times to both", "1562500@4", 0, x -> x.times(0, 0, 0), n);
        Trial.gives("power", "1953125000@6", 0, x -> x.power(0, 0, 3), n);
        Trial.gives("divide to a", "-3125@3", 0, x -> x.divide(0, 0, 1, 3, 7), n);
        Trial.gives("divide to b", "-3125@3", 1, x -> x.divide(1, 0, 1, 3, 7), n);
        Trial.gives("divide to both", "1000@3", 0, x -> x.divide(0, 0, 0, 3, 7), n);
        Trial.gives("ratio to a", "-313@2", 0, x -> x.ratio(0, 0, 1, 3, 0), n);
        Trial.gives("ratio to b", "-313@2", 1, x -> x.ratio(1, 0, 1, 3, 0), n);
        Trial.gives("ratio to both", "1@0", 0, x -> x.ratio(0, 0, 0, 3, 0), n);
        Trial.gives("ratio to a, exactly", "-3125@3", 0, x -> x.ratio(0, 0, 1, 0, 0), n);
        Trial.gives("ratio to b, exactly", "-3125@3", 1, x -> x.ratio(1, 0, 1, 0, 0), n);
        Trial.gives("root", "354@2", 0, x -> x.root(0, 0, 3, 4), n);
        Trial.gives("rescale", "13@0", 0, x -> x.rescale(0, 0, 0, 4), n);
        Trial.gives("rescale up", "125000@4", 0, x -> x.rescale(0, 0, 4, 4), n);
        Trial.gives("round", "12@0", 0, x -> x.round(0, 0, 2, 1), n);
        Trial.gives("strip", "125@1", 0, x -> x.strip(0, 0), n);
        Trial.gives("move", "1250@-1", 0, x -> x.move(0, 0, 3), n);
        Trial.gives("add of long ones to b", "1000..4001..9999@0", 1, x -> x.add(1, 0, 1), "10^4000", "9x3000");
        Trial.gives("times of long ones to a", "8888..3000..1112@0", 0, x -> x.times(0, 0, 1), "9x2000", "8x1000");
        Trial.refused("a call that is refused", x -> x.divide(0, 0, 1, 2, 7), n);
    }

    /** The same sentence for the call with two results. */
    private static void allAreTakenFirstByWhole() {
        String[] n = {"-17.5", "5"};
        Trial.givesBoth("q is a", "-30@1", "-25@1", 0, 7, x -> x.whole(0, 7, 0, 1), n);
        Trial.givesBoth("r is a", "-30@1", "-25@1", 7, 0, x -> x.whole(7, 0, 0, 1), n);
        Trial.givesBoth("q is b", "-30@1", "-25@1", 1, 7, x -> x.whole(1, 7, 0, 1), n);
        Trial.givesBoth("r is b", "-30@1", "-25@1", 7, 1, x -> x.whole(7, 1, 0, 1), n);
        Trial.givesBoth("q is a, r is b", "-30@1", "-25@1", 0, 1, x -> x.whole(0, 1, 0, 1), n);
        Trial.givesBoth("q is b, r is a", "-30@1", "-25@1", 1, 0, x -> x.whole(1, 0, 0, 1), n);
        Trial.givesBoth("a is b", "1@0", "0@1", 7, 6, x -> x.whole(7, 6, 0, 0), n);
        Trial.givesBoth("a is b is q", "1@0", "0@1", 0, 6, x -> x.whole(0, 6, 0, 0), n);
        Trial.givesBoth("a is b is r", "1@0", "0@1", 6, 0, x -> x.whole(6, 0, 0, 0), n);
        Trial.givesBoth("a below b, crosswise", "0@-1", "50@-1", 1, 0, x -> x.whole(1, 0, 0, 1), "50E1", "5000");
        Trial.givesBoth("a raised, crosswise", "33@0", "10@0", 1, 0, x -> x.whole(1, 0, 0, 1), "1E3", "30");
    }
}
