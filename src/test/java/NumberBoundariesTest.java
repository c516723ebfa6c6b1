/**
 * Promises 1 to 15, sentence by sentence: each one that names a boundary case, or that has one, is
 * tried at it and next to it. What holds for all calls (registers, roundings, precisions, scales)
 * is tried in TermsTest.
 */
public final class NumberBoundariesTest {
    private static final int MAX = Integer.MAX_VALUE;
    private static final int MIN = Integer.MIN_VALUE;
    private static final String TOP = "E-2147483647";
    private static final String LOW = "E2147483648";

    private NumberBoundariesTest() {}

    public static void main(String[] args) {
        newRegistersAreZero();
        newTextsAreEmpty();
        putOfTheEnds();
        putInsteadOfALongOne();
        copyOfAnything();
        copyWithTheOtherSign();
        addWithTheGreaterScale();
        addOfSigns();
        addAcrossLimbs();
        takeWithTheGreaterScale();
        takeOfSigns();
        takeAcrossLimbs();
        timesWithTheSumOfScales();
        timesZero();
        timesAcrossLimbs();
        powerZero();
        powerOne();
        powerOfZeroAndOnes();
        powerWithSoManyTimesTheScale();
        powerAtTheMostDigits();
        powerBelowZeroIsRefused();
        divideByZeroIsRefused();
        divideZero();
        divideToAnyScale();
        divideWithGuessesTooHigh();
        ratioOfZero();
        ratioExactOrRefused();
        ratioWithTheLeastScaleNotBelowT();
        ratioExactOfLongOnes();
        ratioRounded();
        ratioByLongerOnes();
        ratioWithTheScaleNearestToT();
        ratioByZeroIsRefused();
        ratioScaleAsIfItHadNoEnd();
        wholeIsCutTowardsZero();
        wholeWithScaleT();
        wholeWithTheLeastScale();
        wholeLeavesTheRest();
        wholeOfZeroAndBelowOne();
        wholeByZeroIsRefused();
        wholeIntoTheSameIsRefused();
        wholeOfFarScales();
        rootOfZero();
        rootWithTheScaleNearestToT();
        rootRounded();
        rootOfTheEnds();
        rootBelowZeroIsRefused();
        rootWithoutPrecisionIsRefused();
        rescaleOfAnything();
        rescaleBeyondAllDigits();
        roundWithItsOwnScale();
        roundNeverWithPrecisionZero();
        roundToJustSoManyDigits();
        stripOfZeros();
        stripOfZero();
        moveByAnything();
        Bench.end();
    }

    /** "All registers are 0 with scale 0". */
    private static void newRegistersAreZero() {
        TensMill x = new TensMill();
        for (int a = 0; a < 8; a++) {
            Bench.due("a new register", "0@0", Bench.show(x, a));
            Bench.due("its sign", 0, x.sign(a));
        }
        new TensMill().put(3, 7, 7);
        Bench.due("one object is not another", "0@0", Bench.show(x, 3));
    }

    /** "both texts are empty". */
    private static void newTextsAreEmpty() {
        TensMill x = new TensMill();
        Bench.due("nothing is laid out", -1, x.characterAt(0));
        Bench.due("an empty text says nothing", false, x.read(0));
        Bench.type(x, "5");
        Bench.due("it says what is typed alone", "5@0", Bench.shown(x.read(0), x, 0));
        Bench.due("nothing is laid out still", -1, x.characterAt(0));
    }

    /** "d becomes u with a scale". */
    private static void putOfTheEnds() {
        long[] us = {0, 1, -1, 999999999, 1000000000, -999999999, 999999999999999999L, 1000000000000000000L, Long.MAX_VALUE,
            Long.MIN_VALUE, Long.MIN_VALUE + 1, -1000000000, -1000000000000000000L, 1000000000000000001L, 4294967296L, MIN, MAX};
        for (long u : us) {
            for (int scale : new int[] {0, 1, -1, MAX, MIN}) {
                Trial.gives("put", u + "@" + scale, 7, x -> x.put(7, u, scale));
            }
        }
    }

    private static void putInsteadOfALongOne() {
        Trial.gives("put", "7@2", 0, x -> x.put(0, 7, 2), "9x4096");
        Trial.gives("put of 0", "0@0", 0, x -> x.put(0, 0, 0), "-9x4096@5");
        Trial.gives("and a long one again", "10000000007@0", 0, x -> x.put(0, 1, -10) && x.put(1, 7, 0) && x.add(0, 0, 1) && x.put(1, 0, 0), "9x4096");
    }

    /** "d becomes a". */
    private static void copyOfAnything() {
        for (String n : new String[] {"7", "-7", "0"}) {
            Trial.gives("copy", n + "@" + MAX, 7, x -> x.copy(7, 0, false), n + TOP);
            Trial.gives("copy", n + "@" + MIN, 7, x -> x.copy(7, 0, false), n + LOW);
            Trial.gives("copy onto itself", n + "@1", 0, x -> x.copy(0, 0, false), n + "E-1");
        }
        Trial.gives("copy of a long one", "-9999..4096..9999@3", 7, x -> x.copy(7, 0, false), "-9x4096@3");
        Trial.gives("copy over a long one", "5@0", 0, x -> x.copy(0, 1, false), "-9x4096@3", "5");
    }

    /** "its U with the other sign if other": 0 has no sign to change. */
    private static void copyWithTheOtherSign() {
        Trial.gives("copy of one above 0", "-7@1", 7, x -> x.copy(7, 0, true), "0.7");
        Trial.gives("copy of one below 0", "7@1", 7, x -> x.copy(7, 0, true), "-0.7");
        Trial.gives("copy of 0", "0@1", 7, x -> x.copy(7, 0, true), "0.0");
        Trial.answers("its sign", 0, x -> x.copy(0, 0, true) ? x.sign(0) : 9, "0");
        Trial.answers("it is not below 0", 0, x -> x.copy(0, 0, true) ? x.compare(0, 1) : 9, "0", "0");
        Trial.gives("root of such a 0", "0@0", 0, x -> x.copy(0, 0, true) && x.root(0, 0, 1, 7), "0");
        Trial.gives("twice", "-7@1", 0, x -> x.copy(0, 0, true) && x.copy(0, 0, true), "-0.7");
        Trial.gives("copy of a long one", "9999..4096..9999@3", 7, x -> x.copy(7, 0, true), "-9x4096@3");
    }

    /** "d becomes a + b, with the greater scale of both". */
    private static void addWithTheGreaterScale() {
        Trial.gives("that of b", "3250@3", 7, x -> x.add(7, 0, 1), "1.25", "2.000");
        Trial.gives("that of a", "3250@3", 7, x -> x.add(7, 0, 1), "2.000", "1.25");
        Trial.gives("below 0", "12@-1", 7, x -> x.add(7, 0, 1), "1E2", "2E1");
        Trial.gives("above and below 0", "1002@1", 7, x -> x.add(7, 0, 1), "1E2", "0.2");
        Trial.gives("of a 0", "1250000@6", 7, x -> x.add(7, 0, 1), "1.25", "0E-6");
        Trial.gives("beside a 0", "125@2", 7, x -> x.add(7, 0, 1), "1.25", "0E6");
        Trial.gives("of two 0s", "0@6", 7, x -> x.add(7, 0, 1), "0E6", "0E-6");
        Trial.gives("of a sum that is 0", "0@4", 7, x -> x.add(7, 0, 1), "1.25", "-1.2500");
        Trial.gives("at the upper end", "-7@" + MAX, 7, x -> x.add(7, 0, 1), "0" + LOW, "-7" + TOP);
        Trial.gives("at the lower end", "12@" + MIN, 7, x -> x.add(7, 0, 1), "5" + LOW, "7" + LOW);
        Trial.gives("zeros are not taken off", "10@1", 7, x -> x.add(7, 0, 1), "0.5", "0.5");
    }

    private static void addOfSigns() {
        Trial.gives("both above 0", "12@0", 7, x -> x.add(7, 0, 1), "7", "5");
        Trial.gives("both below 0", "-12@0", 7, x -> x.add(7, 0, 1), "-7", "-5");
        Trial.gives("the greater below 0", "-2@0", 7, x -> x.add(7, 0, 1), "-7", "5");
        Trial.gives("the greater above 0", "2@0", 7, x -> x.add(7, 0, 1), "7", "-5");
        Trial.gives("the other below 0", "-2@0", 7, x -> x.add(7, 0, 1), "5", "-7");
        Trial.gives("the other above 0", "2@0", 7, x -> x.add(7, 0, 1), "-5", "7");
        Trial.answers("a sum of 0 has no sign", 0, x -> x.add(7, 0, 1) ? x.sign(7) : 9, "-5", "5");
        Trial.gives("0 and one below 0", "-5@0", 7, x -> x.add(7, 0, 1), "0", "-5");
        Trial.gives("one below 0 and 0", "-5@0", 7, x -> x.add(7, 0, 1), "-5", "0");
    }

    private static void addAcrossLimbs() {
        for (int n = 1; n <= 40; n++) {
            String due = "1" + "0".repeat(n) + "@0";
            Trial.gives("nines and 1", due, 7, x -> x.add(7, 0, 1), "9x" + n, "1");
            Trial.gives("1 and nines", due, 7, x -> x.add(7, 1, 0), "9x" + n, "1");
            String twice = "1" + "9".repeat(n - 1) + "8@0";
            Trial.gives("nines twice", twice, 7, x -> x.add(7, 0, 0), "9x" + n);
        }
    }

    /** "d becomes a - b, with the greater scale of both". */
    private static void takeWithTheGreaterScale() {
        Trial.gives("that of b", "-750@3", 7, x -> x.take(7, 0, 1), "1.25", "2.000");
        Trial.gives("that of a", "750@3", 7, x -> x.take(7, 0, 1), "2.000", "1.25");
        Trial.gives("below 0", "8@-1", 7, x -> x.take(7, 0, 1), "1E2", "2E1");
        Trial.gives("above and below 0", "998@1", 7, x -> x.take(7, 0, 1), "1E2", "0.2");
        Trial.gives("of a 0", "1250000@6", 7, x -> x.take(7, 0, 1), "1.25", "0E-6");
        Trial.gives("from a 0", "-1250000@6", 7, x -> x.take(7, 1, 0), "1.25", "0E-6");
        Trial.gives("of two 0s", "0@6", 7, x -> x.take(7, 0, 1), "0E6", "0E-6");
        Trial.gives("of a rest that is 0", "0@4", 7, x -> x.take(7, 0, 1), "1.25", "1.2500");
        Trial.gives("at the upper end", "7@" + MAX, 7, x -> x.take(7, 0, 1), "0" + LOW, "-7" + TOP);
        Trial.gives("at the lower end", "-2@" + MIN, 7, x -> x.take(7, 0, 1), "5" + LOW, "7" + LOW);
    }

    private static void takeOfSigns() {
        Trial.gives("both above 0", "2@0", 7, x -> x.take(7, 0, 1), "7", "5");
        Trial.gives("both above 0, the other greater", "-2@0", 7, x -> x.take(7, 0, 1), "5", "7");
        Trial.gives("both below 0", "-2@0", 7, x -> x.take(7, 0, 1), "-7", "-5");
        Trial.gives("both below 0, the other farther", "2@0", 7, x -> x.take(7, 0, 1), "-5", "-7");
        Trial.gives("from below 0", "-12@0", 7, x -> x.take(7, 0, 1), "-7", "5");
        Trial.gives("one below 0", "12@0", 7, x -> x.take(7, 0, 1), "7", "-5");
        Trial.answers("a rest of 0 has no sign", 0, x -> x.take(7, 0, 1) ? x.sign(7) : 9, "-5", "-5");
        Trial.gives("from 0", "-5@0", 7, x -> x.take(7, 0, 1), "0", "5");
    }

    private static void takeAcrossLimbs() {
        for (int n = 1; n <= 40; n++) {
            String nines = "9".repeat(n) + "@0";
            Trial.gives("1 from a power of ten", nines, 7, x -> x.take(7, 0, 1), "10^" + n, "1");
            Trial.gives("a power of ten from 1", "-" + nines, 7, x -> x.take(7, 1, 0), "10^" + n, "1");
            Trial.gives("all but 1", "1@0", 7, x -> x.take(7, 0, 1), "10^" + n, "9x" + n);
        }
    }

    /** "d becomes a * b, with the sum of both scales". */
    private static void timesWithTheSumOfScales() {
        Trial.gives("of two above 0", "15@3", 7, x -> x.times(7, 0, 1), "0.3", "0.05");
        Trial.gives("of one below 0", "15@-1", 7, x -> x.times(7, 0, 1), "0.3", "5E2");
        Trial.gives("zeros are not taken off", "1000@5", 7, x -> x.times(7, 0, 1), "1.25", "0.008");
        Trial.gives("one below 0", "-15@3", 7, x -> x.times(7, 0, 1), "-0.3", "0.05");
        Trial.gives("the other below 0", "-15@3", 7, x -> x.times(7, 0, 1), "0.3", "-0.05");
        Trial.gives("both below 0", "15@3", 7, x -> x.times(7, 0, 1), "-0.3", "-0.05");
        Trial.gives("from one end to the other", "6@-1", 7, x -> x.times(7, 0, 1), "2" + TOP, "3" + LOW);
        Trial.gives("up to the end", "6@" + MAX, 7, x -> x.times(7, 0, 1), "2E-2147483646", "0.3");
        Trial.gives("down to the end", "6@" + MIN, 7, x -> x.times(7, 0, 1), "2E2147483647", "3E1");
    }

    private static void timesZero() {
        Trial.gives("0 and one", "0@3", 7, x -> x.times(7, 0, 1), "0.0", "0.05");
        Trial.gives("one and 0", "0@3", 7, x -> x.times(7, 1, 0), "0.0", "-0.05");
        Trial.gives("0 and 0", "0@2", 7, x -> x.times(7, 0, 0), "0.0");
        Trial.gives("0 and a long one", "0@1", 7, x -> x.times(7, 0, 1), "0.0", "-9x4096");
        Trial.gives("a long one and 0", "0@1", 7, x -> x.times(7, 1, 0), "0.0", "-9x4096");
        Trial.gives("a long one and 1", "-9999..4096..9999@1", 7, x -> x.times(7, 1, 0), "0.1", "-9x4096");
        Trial.answers("no sign", 0, x -> x.times(0, 0, 1) ? x.sign(0) : 9, "0", "-5");
        Trial.answers("not below 0", 0, x -> x.times(0, 0, 1) ? x.compare(0, 2) : 9, "0", "-5", "0");
    }

    private static void timesAcrossLimbs() {
        for (int n = 1; n <= 28; n++) {
            String square = "9".repeat(n - 1) + "8" + "0".repeat(n - 1) + "1@0";
            Trial.gives("nines by themselves", square, 7, x -> x.times(7, 0, 0), "9x" + n);
            String nines = "8".concat("9".repeat(n - 1)).concat("1@0");
            Trial.gives("nines by 9", nines, 7, x -> x.times(7, 0, 1), "9x" + n, "9");
            Trial.gives("9 by nines", nines, 7, x -> x.times(7, 1, 0), "9x" + n, "9");
        }
    }

    /** "the product of 1 and n factors a, with n times the scale": with none of them 1, scale 0. */
    private static void powerZero() {
        for (String a : new String[] {"0", "0.00", "1", "-1", "-2.5", "0" + TOP, "7" + LOW, "-9x4096@3"}) {
            Trial.gives("power 0 of " + a, "1@0", 7, x -> x.power(7, 0, 0), a);
        }
        Trial.gives("into itself", "1@0", 0, x -> x.power(0, 0, 0), "-9x4096@3");
    }

    private static void powerOne() {
        Trial.gives("power 1", "-250@2", 7, x -> x.power(7, 0, 1), "-2.50");
        Trial.gives("power 1 of 0", "0@2", 7, x -> x.power(7, 0, 1), "0.00");
        Trial.gives("power 1 of a long one", "-9999..4096..9999@3", 7, x -> x.power(7, 0, 1), "-9x4096@3");
        Trial.gives("power 1 at an end", "-7@" + MAX, 7, x -> x.power(7, 0, 1), "-7" + TOP);
        Trial.gives("power 1 at the other", "-7@" + MIN, 7, x -> x.power(7, 0, 1), "-7" + LOW);
    }

    private static void powerOfZeroAndOnes() {
        Trial.gives("0", "0@0", 7, x -> x.power(7, 0, MAX), "0");
        Trial.gives("1", "1@0", 7, x -> x.power(7, 0, MAX), "1");
        Trial.gives("-1, odd", "-1@0", 7, x -> x.power(7, 0, MAX), "-1");
        Trial.gives("-1, even", "1@0", 7, x -> x.power(7, 0, MAX - 1), "-1");
        Trial.gives("0.1", "1@" + MAX, 7, x -> x.power(7, 0, MAX), "0.1");
        Trial.gives("-10", "-1@-" + MAX, 7, x -> x.power(7, 0, MAX), "-1E1");
        Trial.gives("0 with a scale", "0@-" + MAX, 7, x -> x.power(7, 0, MAX), "0E1");
        Trial.refused("1.0 is too long", x -> x.power(7, 0, MAX), "1.0");
        Trial.refused("1.0 is too long", x -> x.power(7, 0, 4096), "1.0");
        Trial.gives("1.0 is not yet", "1000..4096..0000@4095", 7, x -> x.power(7, 0, 4095), "1.0");
    }

    /** "with n times the scale", and the sign of so many factors. */
    private static void powerWithSoManyTimesTheScale() {
        Trial.gives("a square", "625@2", 7, x -> x.power(7, 0, 2), "-2.5");
        Trial.gives("a cube", "-15625@3", 7, x -> x.power(7, 0, 3), "-2.5");
        Trial.gives("of a scale below 0", "8@-6", 7, x -> x.power(7, 0, 3), "2E2");
        Trial.gives("zeros stay", "10000@4", 7, x -> x.power(7, 0, 4), "1.0");
        Trial.gives("7 factors", "2187@0", 7, x -> x.power(7, 0, 7), "3");
        Trial.gives("8 factors", "6561@0", 7, x -> x.power(7, 0, 8), "3");
        Trial.gives("37 factors", "450283905890997363@0", 7, x -> x.power(7, 0, 37), "3");
        Trial.gives("up to the end", "8@" + MAX, 7, x -> x.power(7, 0, 1), "8" + TOP);
        Trial.gives("near the end", "-8@-2147483646", 7, x -> x.power(7, 0, 3), "-2E715827882");
    }

    private static void powerAtTheMostDigits() {
        Trial.gives("2^13606", "6518..4096..4064@0", 7, x -> x.power(7, 0, 13606), "2");
        Trial.refused("2^13607", x -> x.power(7, 0, 13607), "2");
        Trial.refused("2^13607 below 0", x -> x.power(7, 0, 13607), "-2");
        Trial.gives("9^4292", "4063..4096..5681@0", 7, x -> x.power(7, 0, 4292), "9");
        Trial.refused("9^4293", x -> x.power(7, 0, 4293), "9");
        Trial.gives("99^2052", "1105..4096..4801@0", 7, x -> x.power(7, 0, 2052), "99");
        Trial.refused("99^2053", x -> x.power(7, 0, 2053), "99");
        for (String a : new String[] {"3", "-7", "9", "12", "99", "-101", "9x40", "1x100"}) {
            for (int n : new int[] {8590, 13605, 13606, 13607, 16384, MAX - 1, MAX}) {
                Trial.refused(a + " to " + n, x -> x.power(7, 0, n), a);
            }
        }
        for (int n : new int[] {2053, 2500, 3000, 3001, 4000, 4095}) {
            Trial.refused("99 to " + n, x -> x.power(7, 0, n), "99");
        }
        Trial.gives("a square of 4096 digits", "9999..4096..0001@0", 7, x -> x.power(7, 0, 2), "9x2048");
        Trial.refused("a square of 4098 digits", x -> x.power(7, 0, 2), "9x2049");
        Trial.refused("a square of 4097 digits", x -> x.power(7, 0, 2), "10^2048");
        Trial.refused("the longest one's square", x -> x.power(7, 0, 2), "9x4096");
        Trial.refused("the longest one's greatest power", x -> x.power(7, 0, MAX), "9x4096");
    }

    /** "Refused, too, when n is below 0". */
    private static void powerBelowZeroIsRefused() {
        for (String a : new String[] {"0", "1", "-1", "2", "10", "9x4096"}) {
            for (int n : new int[] {-1, -2, MIN + 1, MIN}) {
                Trial.refused(a + " to " + n, x -> x.power(7, 0, n), a);
            }
        }
    }

    /** "Refused, too, when b is 0". */
    private static void divideByZeroIsRefused() {
        for (int way = 0; way < 8; way++) {
            int w = way;
            Trial.refused("by 0", x -> x.divide(7, 0, 1, 2, w), "1", "0");
            Trial.refused("0 by 0", x -> x.divide(7, 0, 1, 2, w), "0", "0");
            Trial.refused("by a 0 with a scale", x -> x.divide(7, 0, 1, 2, w), "-1", "0E-5");
            Trial.refused("0 by itself", x -> x.divide(0, 0, 0, 2, w), "0");
            Trial.refused("by a 0 far off", x -> x.divide(7, 0, 1, MIN, w), "1" + TOP, "0" + LOW);
        }
    }

    private static void divideZero() {
        for (int way = 0; way < 8; way++) {
            int w = way;
            Trial.gives("0 by one", "0@3", 7, x -> x.divide(7, 0, 1, 3, w), "0", "-7");
            Trial.gives("0 by one, far up", "0@" + MAX, 7, x -> x.divide(7, 0, 1, MAX, w), "0" + LOW, "7" + TOP);
            Trial.gives("0 by one, far down", "0@" + MIN, 7, x -> x.divide(7, 0, 1, MIN, w), "0" + TOP, "7" + LOW);
        }
    }

    /** "a / b rounded to a scale". */
    private static void divideToAnyScale() {
        Trial.gives("thirds", "33333@5", 7, x -> x.divide(7, 0, 1, 5, 4), "1", "3");
        Trial.gives("thirds to 0", "0@0", 7, x -> x.divide(7, 0, 1, 0, 4), "1", "3");
        Trial.gives("two thirds to 0", "1@0", 7, x -> x.divide(7, 0, 1, 0, 4), "2", "3");
        Trial.gives("to tens", "-3@-1", 7, x -> x.divide(7, 0, 1, -1, 4), "-100", "4");
        Trial.gives("to hundreds", "0@-2", 7, x -> x.divide(7, 0, 1, -2, 4), "-100", "4");
        Trial.gives("to hundreds, down from there", "-1@-2", 7, x -> x.divide(7, 0, 1, -2, 3), "-100", "4");
        Trial.gives("scales of both", "25000@1", 7, x -> x.divide(7, 0, 1, 1, 7), "1E2", "0.04");
        Trial.gives("scales of both", "0@1", 7, x -> x.divide(7, 0, 1, 1, 1), "0.04", "1E2");
        Trial.gives("the highest scale", "3@" + MAX, 7, x -> x.divide(7, 0, 1, MAX, 1), "1E-2147483646", "3");
        Trial.gives("the lowest scale", "3@" + MIN, 7, x -> x.divide(7, 0, 1, MIN, 1), "10" + LOW, "3");
        Trial.gives("a long one by itself", "1000@3", 7, x -> x.divide(7, 0, 0, 3, 7), "9x4096");
        Trial.gives("a short one by a long one", "1@0", 7, x -> x.divide(7, 0, 1, 0, 0), "1", "9x4096");
        Trial.gives("half of a long one", "4999..4096..9995@1", 7, x -> x.divide(7, 0, 1, 1, 7), "9x4095", "2");
        Trial.gives("just half way", "2@0", 7, x -> x.divide(7, 0, 1, 0, 6), "5", "2");
        Trial.gives("just half way, odd", "4@0", 7, x -> x.divide(7, 0, 1, 0, 6), "7", "2");
        Trial.gives("not quite half way", "0@0", 7, x -> x.divide(7, 0, 1, 0, 4), "4x4096", "8x4096@-1");
        Trial.gives("half way of long ones", "1@0", 7, x -> x.divide(7, 0, 1, 0, 4), "4x4096", "8x4096");
        Trial.gives("half way of long ones", "0@0", 7, x -> x.divide(7, 0, 1, 0, 5), "4x4096", "8x4096");
    }

    /** Divisors whose upper limbs promise more than the lower ones allow. */
    private static void divideWithGuessesTooHigh() {
        String[][] dues = {
            {"1000000000000000000000000000", "1000000000999999999", "999999999@0"},
            {"999999999999999999999999999", "1000000000000000001", "999999999@0"},
            {"1000000000000000000", "1999999999", "500000000@0"},
            {"999999999999999998000000000", "999999999999999999", "999999999@0"},
            {"1000000001000000000000000000", "1000000001999999999", "999999999@0"},
            {"4294967296000000000000000000", "4294967296000000001", "999999999@0"},
            {"999999999999999999999999998", "999999999999999999", "1000000000@0"}
        };
        for (String[] due : dues) {
            Trial.gives(due[0] + " / " + due[1], due[2], 7, x -> x.divide(7, 0, 1, 0, 1), due[0], due[1]);
        }
    }

    /** "For a = 0: 0 with scale T", the scale of a less that of b. */
    private static void ratioOfZero() {
        for (int precision : new int[] {0, 1, 4096}) {
            Trial.gives("above 0", "0@3", 7, x -> x.ratio(7, 0, 1, precision, 7), "0.0000", "0.7");
            Trial.gives("below 0", "0@-3", 7, x -> x.ratio(7, 0, 1, precision, 7), "0.0", "0.0007");
            Trial.gives("the end", "0@" + MAX, 7, x -> x.ratio(7, 0, 1, precision, 7), "0E-2147483646", "7E1");
            Trial.refused("beyond the end", x -> x.ratio(7, 0, 1, precision, 4), "0" + TOP, "7E1");
            Trial.gives("the other end", "0@" + MIN, 7, x -> x.ratio(7, 0, 1, precision, 7), "0E2147483647", "0.7");
            Trial.refused("beyond the other end", x -> x.ratio(7, 0, 1, precision, 4), "0" + LOW, "0.7");
            Trial.answers("no sign", 0, x -> x.ratio(0, 0, 1, precision, 4) ? x.sign(0) : 9, "0", "-7");
        }
    }

    /** "With precision 0: just a / b (refused when no decimal has that value)". */
    private static void ratioExactOrRefused() {
        for (int way = 0; way < 8; way++) {
            int w = way;
            Trial.gives("1 / 8", "125@3", 7, x -> x.ratio(7, 0, 1, 0, w), "1", "8");
            Trial.gives("-1 / 125", "-8@3", 7, x -> x.ratio(7, 0, 1, 0, w), "-1", "125");
            Trial.gives("3 / 6", "5@1", 7, x -> x.ratio(7, 0, 1, 0, w), "3", "6");
            Trial.refused("1 / 3", x -> x.ratio(7, 0, 1, 0, w), "1", "3");
            Trial.refused("-1 / 7", x -> x.ratio(7, 0, 1, 0, w), "-1", "7");
            Trial.refused("5 / 6", x -> x.ratio(7, 0, 1, 0, w), "5", "6");
            Trial.refused("1 / 9", x -> x.ratio(7, 0, 1, 0, w), "1", "9x1");
        }
        Trial.gives("1 / 640", "15625@7", 7, x -> x.ratio(7, 0, 1, 0, 7), "1", "640");
        Trial.gives("21 / 0.0007", "30000@0", 7, x -> x.ratio(7, 0, 1, 0, 7), "21.0000", "0.0007");
    }

    /** "with the least scale not below T that it can have so". */
    private static void ratioWithTheLeastScaleNotBelowT() {
        String[][] dues = {
            {"600", "3", "200@0"}, {"600.0", "3", "2000@1"}, {"6E2", "3", "2@-2"}, {"6E2", "0.3", "2@-3"}, {"600", "0.3", "200@-1"},
            {"1.00", "2", "50@2"}, {"1.0", "2", "5@1"}, {"1", "2", "5@1"}, {"1E1", "2", "5@0"}, {"1E2", "2", "5@-1"}, {"1E1", "20", "5@1"},
            {"1", "4E1", "25@3"}, {"0.00001", "1E2", "1@7"}, {"10", "0.1", "10@-1"}, {"1", "1.000", "1@0"}, {"1.000", "1", "1000@3"},
            {"1000", "1.000", "1@-3"}, {"7", "7", "1@0"}, {"7E3", "7E3", "1@0"}, {"3E-3", "4E-3", "75@2"}, {"3E9", "4", "75@-7"}
        };
        for (String[] due : dues) {
            Trial.gives(due[0] + " / " + due[1], due[2], 7, x -> x.ratio(7, 0, 1, 0, 7), due[0], due[1]);
        }
        Trial.gives("T below, the scale not", "125@" + MIN, 7, x -> x.ratio(7, 0, 1, 0, 7), "1" + LOW, "8E-3");
        Trial.refused("both below", x -> x.ratio(7, 0, 1, 0, 7), "1" + LOW, "8E-4");
        Trial.gives("the greatest scale", "125@" + MAX, 7, x -> x.ratio(7, 0, 1, 0, 7), "1E-2147483644", "8");
        Trial.refused("beyond it", x -> x.ratio(7, 0, 1, 0, 7), "1E-2147483645", "8");
    }

    private static void ratioExactOfLongOnes() {
        Trial.gives("2^-5860", "9209..4096..0625@5860", 7, x -> x.ratio(7, 0, 1, 0, 7), "1", "2^5860");
        Trial.refused("2^-5861", x -> x.ratio(7, 0, 1, 0, 7), "1", "2^5861");
        Trial.gives("5^-5860", "1085..1765..4976@5860", 7, x -> x.ratio(7, 0, 1, 0, 7), "1", "5^5860");
        Trial.gives("2^-5860 in tens", "9209..4096..0625@5859", 7, x -> x.ratio(7, 0, 1, 0, 7), "1E1", "2^5860");
        Trial.gives("a long one by itself", "1@0", 7, x -> x.ratio(7, 0, 0, 0, 7), "7x4096@5");
        Trial.gives("a long one by its ninth", "9@0", 7, x -> x.ratio(7, 0, 1, 0, 7), "9x4096@5", "1x4096@5");
        Trial.refused("a ninth by a long one", x -> x.ratio(7, 1, 0, 0, 7), "9x4096@5", "1x4096@5");
        Trial.gives("a long one by 1", "7777..4096..7777@5", 7, x -> x.ratio(7, 0, 1, 0, 7), "7x4096@5", "1");
        Trial.gives("zeros for T", "1000..4096..0000@4095", 7, x -> x.ratio(7, 0, 1, 0, 7), "10^4095@4095", "1");
        Trial.gives("a half, one digit more", "5@1", 7, x -> x.ratio(7, 0, 1, 0, 7), "4x4096", "8x4096");
        Trial.refused("a half of the longest odd one", x -> x.ratio(7, 0, 1, 0, 7), "3x4096", "2");
        Trial.gives("a half of a shorter odd one", "1666..4096..6665@1", 7, x -> x.ratio(7, 0, 1, 0, 7), "3x4095", "2");
    }

    /** "Otherwise rounded to the precision". */
    private static void ratioRounded() {
        Trial.gives("1 / 3 in one", "3@1", 7, x -> x.ratio(7, 0, 1, 1, 4), "1", "3");
        Trial.gives("2 / 3 in one", "7@1", 7, x -> x.ratio(7, 0, 1, 1, 4), "2", "3");
        Trial.gives("1 / 8 in two, half way", "12@2", 7, x -> x.ratio(7, 0, 1, 2, 6), "1", "8");
        Trial.gives("3 / 8 in two, half way", "38@2", 7, x -> x.ratio(7, 0, 1, 2, 6), "3", "8");
        Trial.gives("a long one in one", "1@-4096", 7, x -> x.ratio(7, 0, 1, 1, 4), "9x4096", "1");
        Trial.gives("one by a long one", "1000..4096..0000@8191", 7, x -> x.ratio(7, 0, 1, 4096, 1), "1", "9x4096");
        Trial.gives("one by a long one, up", "1000..4096..0001@8191", 7, x -> x.ratio(7, 0, 1, 4096, 0), "1", "9x4096");
        Trial.gives("with zeros behind", "3000@4", 7, x -> x.ratio(7, 0, 1, 4, 1), "0.900001", "3");
        Trial.refused("by rounding 7", x -> x.ratio(7, 0, 1, 4096, 7), "1", "3");
        Trial.refused("one digit too many", x -> x.ratio(7, 0, 1, 2, 7), "1", "8");
    }

    private static void ratioByLongerOnes() {
        for (int n = 4; n <= 40; n++) {
            // 3 / (10^n - 1) is 3 with n - 1 zeros in front and behind, again and again.
            String third = "3x" + n;
            String scale = "@" + (n + 3);
            Trial.gives("1 / " + third, "3000" + scale, 7, x -> x.ratio(7, 0, 1, 4, 1), "1", third);
            Trial.gives("1 / " + third + ", up", "3001" + scale, 7, x -> x.ratio(7, 0, 1, 4, 0), "1", third);
            Trial.gives(third + " by itself", "1@0", 7, x -> x.ratio(7, 0, 0, 4, 7), third);
            Trial.gives("its third", "3@0", 7, x -> x.ratio(7, 0, 1, 4, 7), third, "1x" + n);
        }
    }

    /** "when a decimal of at most so many digits has just that value: that, with the scale nearest to T". */
    private static void ratioWithTheScaleNearestToT() {
        String[][] dues = {
            {"600", "3", "5", "200@0"}, {"600", "3", "3", "200@0"}, {"600", "3", "2", "20@-1"}, {"600", "3", "1", "2@-2"},
            {"1", "8", "9", "125@3"}, {"1", "8", "3", "125@3"}, {"5.0000", "1", "2", "50@1"}, {"5.0000", "1", "1", "5@0"},
            {"5.0000", "1", "5", "50000@4"}, {"5.0000", "1", "9", "50000@4"}, {"100", "0.01", "3", "100@-2"}, {"100", "0.01", "1", "1@-4"},
            {"100", "0.01", "9", "100@-2"}, {"1E4", "0.01", "9", "1@-6"}, {"1", "1E4", "9", "1@4"}, {"1E4", "1E4", "9", "1@0"},
            {"-6E2", "3", "9", "-2@-2"}, {"-6E2", "-0.3", "9", "2@-3"}, {"8", "1E5", "3", "8@5"}, {"80", "1E5", "1", "8@4"},
            {"80", "1E5", "2", "80@5"}, {"1.000", "8", "4", "125@3"}, {"1.0000", "8", "4", "1250@4"}, {"1.0000", "8", "3", "125@3"}
        };
        for (String[] due : dues) {
            int precision = Integer.parseInt(due[2]);
            String what = due[0] + " / " + due[1] + " in " + precision;
            Trial.gives(what, due[3], 7, x -> x.ratio(7, 0, 1, precision, 7), due[0], due[1]);
        }
        Trial.gives("the longest", "7777..4096..7777@5", 7, x -> x.ratio(7, 0, 1, 4096, 7), "7x4096@5", "1");
        Trial.gives("the longest of zeros", "1000..4096..0000@5", 7, x -> x.ratio(7, 0, 1, 4096, 7), "10^4095@5", "1");
        Trial.gives("in fewer zeros", "1000..4095..0000@4", 7, x -> x.ratio(7, 0, 1, 4095, 7), "10^4095@5", "1");
        Trial.gives("in no zeros", "1@-4090", 7, x -> x.ratio(7, 0, 1, 1, 7), "10^4095@5", "1");
    }

    /** "Refused, too, when b is 0". */
    private static void ratioByZeroIsRefused() {
        for (int precision : new int[] {0, 1, 4096}) {
            for (int way = 0; way < 8; way++) {
                int w = way;
                Trial.refused("by 0", x -> x.ratio(7, 0, 1, precision, w), "1", "0");
                Trial.refused("0 by 0", x -> x.ratio(7, 0, 1, precision, w), "0", "0");
                Trial.refused("by a 0 with a scale", x -> x.ratio(7, 0, 1, precision, w), "-1", "0E-5");
                Trial.refused("0 by itself", x -> x.ratio(0, 0, 0, precision, w), "0");
            }
        }
    }

    /** "or the scale so told (told as if scales had no end) is no int". */
    private static void ratioScaleAsIfItHadNoEnd() {
        // The value is 1000 with scale T = 2147483650, which is the nearest to itself.
        Trial.refused("a lower scale would do", x -> x.ratio(7, 0, 1, 4, 7), "1000" + TOP, "1E3");
        Trial.refused("a lower scale would do", x -> x.ratio(7, 0, 1, 2, 7), "1000" + TOP, "1E3");
        Trial.gives("told for one digit", "1@" + MAX, 7, x -> x.ratio(7, 0, 1, 1, 7), "1000" + TOP, "1E3");
        // The value is 1 with scale T = -2147483649, and 10 with a scale one above.
        Trial.refused("a higher scale would do", x -> x.ratio(7, 0, 1, 9, 7), "1" + LOW, "0.1");
        Trial.refused("a higher scale would do, exactly", x -> x.ratio(7, 0, 1, 0, 7), "1" + LOW, "0.1");
        Trial.gives("T is no int, the scale is", "125@" + MIN, 7, x -> x.ratio(7, 0, 1, 3, 7), "1" + LOW, "0.008");
        Trial.refused("rounded, it is none", x -> x.ratio(7, 0, 1, 2, 4), "1" + LOW, "0.008");
        Trial.gives("T is no int, rounded the scale is", "13@" + MAX, 7, x -> x.ratio(7, 0, 1, 2, 4), "1250" + TOP, "1E2");
        Trial.refused("and with a digit more none", x -> x.ratio(7, 0, 1, 3, 7), "1250" + TOP, "1E2");
        Trial.gives("by the carry alone", "1@" + MAX, 7, x -> x.ratio(7, 0, 1, 1, 4), "96" + TOP, "1E2");
        Trial.refused("and without it none", x -> x.ratio(7, 0, 1, 1, 1), "96" + TOP, "1E2");
    }

    /** "q becomes the whole number that a / b is when it is cut towards 0". */
    private static void wholeIsCutTowardsZero() {
        String[][] dues = {
            {"17", "5", "3@0", "2@0"}, {"-17", "5", "-3@0", "-2@0"}, {"17", "-5", "-3@0", "2@0"}, {"-17", "-5", "3@0", "-2@0"},
            {"19", "5", "3@0", "4@0"}, {"-19", "5", "-3@0", "-4@0"}, {"20", "5", "4@0", "0@0"}, {"-20", "5", "-4@0", "0@0"},
            {"4", "5", "0@0", "4@0"}, {"-4", "5", "0@0", "-4@0"}, {"4", "-5", "0@0", "4@0"}, {"5", "5", "1@0", "0@0"}, {"-5", "5", "-1@0", "0@0"},
            {"9999999999999999999", "10000000000000000000", "0@0", "9999999999999999999@0"}
        };
        for (String[] due : dues) {
            String what = due[0] + " by " + due[1];
            Trial.givesBoth(what, due[2], due[3], 7, 6, x -> x.whole(7, 6, 0, 1), due[0], due[1]);
        }
        Trial.answers("a q of 0 has no sign", 0, x -> x.whole(7, 0, 0, 1) ? x.sign(7) : 9, "-4", "5");
        Trial.answers("an r of 0 has no sign", 0, x -> x.whole(0, 7, 0, 1) ? x.sign(7) : 9, "-1", "1");
    }

    /** "T being the scale of a less that of b: with scale T". */
    private static void wholeWithScaleT() {
        String[][] dues = {
            {"12.34", "0.5", "240@1", "34@2"}, {"12.34", "5", "200@2", "234@2"}, {"12.34", "1.23", "10@0", "4@2"}, {"6.00", "3", "200@2", "0@2"},
            {"1E3", "1", "1@-3", "0@-3"}, {"4E3", "2", "2@-3", "0@-3"}, {"4E3", "2E3", "2@0", "0@-3"}, {"4E3", "2E2", "2@-1", "0@-3"},
            {"20E3", "2", "10@-3", "0@-3"}, {"4E3", "0.002", "2@-6", "0@-3"}, {"7000", "2E3", "3000@3", "1000@0"}, {"7.0", "2E3", "0@4", "70@1"},
            {"0.00", "0.7", "0@1", "0@2"}, {"0E3", "0.7", "0@-4", "0@-3"}
        };
        for (String[] due : dues) {
            String what = due[0] + " by " + due[1];
            Trial.givesBoth(what, due[2], due[3], 7, 6, x -> x.whole(7, 6, 0, 1), due[0], due[1]);
        }
        Trial.givesBoth("zeros up to 4096 digits", "1000..4096..0000@4095", "0@4095", 7, 6, x -> x.whole(7, 6, 0, 1), "10^4095@4095", "1");
    }

    /** "or, when it is no multiple of 10^(-T), with the least scale with which it is a whole U". */
    private static void wholeWithTheLeastScale() {
        String[][] dues = {
            {"1E3", "30", "33@0", "10@0"}, {"1E3", "5", "2@-2", "0@-2"}, {"1E3", "4", "25@-1", "0@-1"}, {"1E3", "8", "125@0", "0@0"},
            {"1E3", "16", "62@0", "8@0"}, {"1E4", "0.16", "625@-2", "0@0"}, {"7", "0.002", "35@-2", "0@1"}, {"7", "0.02", "35@-1", "0@1"},
            {"1E3", "3.3", "303@0", "1@1"}, {"1E3", "9.9", "101@0", "1@1"}, {"1E3", "0.7", "1428@0", "4@1"}, {"-1E3", "0.7", "-1428@0", "-4@1"},
            {"1E3", "49.9", "2@-1", "2@0"}, {"1E3", "4.99", "2@-2", "2@0"}, {"1E6", "4.99", "2004@-2", "4@0"}, {"1E12", "7", "142857142857@0", "1@0"}
        };
        for (String[] due : dues) {
            String what = due[0] + " by " + due[1];
            Trial.givesBoth(what, due[2], due[3], 7, 6, x -> x.whole(7, 6, 0, 1), due[0], due[1]);
        }
    }

    /** "r becomes a - q * b, with the greater one of the scales of a and of the product". */
    private static void wholeLeavesTheRest() {
        Trial.givesBoth("the scale of a", "0@3", "12345@3", 7, 6, x -> x.whole(7, 6, 0, 1), "12.345", "13");
        Trial.givesBoth("that of both", "30@1", "95@2", 7, 6, x -> x.whole(7, 6, 0, 1), "3.95", "1.0");
        Trial.givesBoth("that of the product", "3@0", "9500@4", 7, 6, x -> x.whole(7, 6, 0, 1), "3.95", "1.0000");
        Trial.givesBoth("that of the product, less", "3@-1", "7@1", 7, 6, x -> x.whole(7, 6, 0, 1), "30.7", "1.00");
        Trial.givesBoth("a rest of 0", "3@-1", "0@1", 7, 6, x -> x.whole(7, 6, 0, 1), "3E1", "1.00");
        Trial.givesBoth("a long rest", "1@0", "4444..4096..4444@0", 7, 6, x -> x.whole(7, 6, 0, 1), "9x4096", "5x4096");
    }

    private static void wholeOfZeroAndBelowOne() {
        Trial.givesBoth("0", "0@2", "0@2", 7, 6, x -> x.whole(7, 6, 0, 1), "0.00", "7");
        Trial.givesBoth("0 by a long one", "0@2", "0@2", 7, 6, x -> x.whole(7, 6, 0, 1), "0.00", "9x4096");
        Trial.givesBoth("a far less one", "0@" + MAX, "-7@" + MAX, 7, 6, x -> x.whole(7, 6, 0, 1), "-7" + TOP, "7");
        Trial.givesBoth("by a far greater one", "0@" + MAX, "-7@-1", 7, 6, x -> x.whole(7, 6, 0, 1), "-7E1", "7" + LOW);
        Trial.refused("by one that is too far", x -> x.whole(7, 6, 0, 1), "-7", "7" + LOW);
        Trial.givesBoth("tens by one as long", "0@-3", "1@-3", 7, 6, x -> x.whole(7, 6, 0, 1), "1E3", "2000");
        Trial.givesBoth("tens by one as long", "0@-4", "-1@-3", 7, 6, x -> x.whole(7, 6, 0, 1), "-1E3", "1000.1");
        Trial.givesBoth("one by tens as long", "0@3", "1999@0", 7, 6, x -> x.whole(7, 6, 0, 1), "1999", "2E3");
        Trial.givesBoth("by a longer one", "0@0", "9999..4095..9999@0", 7, 6, x -> x.whole(7, 6, 0, 1), "9x4095", "10^4095");
        Trial.givesBoth("by one a little greater", "0@0", "9999..4096..9998@0", 7, 6, x -> x.take(0, 0, 2) && x.whole(7, 6, 0, 1) && x.add(0, 0, 2), "9x4096", "9x4096", "1");
    }

    /** "Refused, too, when b is 0". */
    private static void wholeByZeroIsRefused() {
        Trial.refused("by 0", x -> x.whole(7, 6, 0, 1), "1", "0");
        Trial.refused("0 by 0", x -> x.whole(7, 6, 0, 1), "0", "0");
        Trial.refused("0 by itself", x -> x.whole(7, 6, 0, 0), "0");
        Trial.refused("by a 0 with a scale", x -> x.whole(7, 6, 0, 1), "1", "0E-5");
        Trial.refused("by a 0 far off", x -> x.whole(7, 6, 0, 1), "1" + TOP, "0" + LOW);
        Trial.refused("by a 0 far off", x -> x.whole(7, 6, 0, 1), "1" + LOW, "0" + TOP);
    }

    /** "or q and r are the same". */
    private static void wholeIntoTheSameIsRefused() {
        for (int same = 0; same < 8; same++) {
            int s = same;
            Trial.refused("both into " + same, x -> x.whole(s, s, 0, 1), "17", "5");
            Trial.refused("0, both into " + same, x -> x.whole(s, s, 0, 1), "0", "5");
        }
        Trial.givesBoth("side by side", "3@0", "2@0", 6, 7, x -> x.whole(6, 7, 0, 1), "17", "5");
    }

    private static void wholeOfFarScales() {
        Trial.givesBoth("it comes out", "875@" + MIN, "0@" + (MIN + 2), 7, 6, x -> x.whole(7, 6, 0, 1), "70" + LOW, "0.08");
        Trial.refused("with a scale too low", x -> x.whole(7, 6, 0, 1), "70" + LOW, "0.008");
        Trial.refused("it does not come out", x -> x.whole(7, 6, 0, 1), "70" + LOW, "0.03");
        Trial.givesBoth("the ends of both", "2@0", "1@" + MIN, 7, 6, x -> x.whole(7, 6, 0, 1), "7" + LOW, "3" + LOW);
        Trial.givesBoth("the other ends of both", "2@0", "1@" + MAX, 7, 6, x -> x.whole(7, 6, 0, 1), "7" + TOP, "3" + TOP);
        Trial.givesBoth("zeros that are not there", "7@-5000", "0@-5000", 7, 6, x -> x.whole(7, 6, 0, 1), "7E5000", "1");
        Trial.givesBoth("a long one by a power of two", "9209..4096..0625@0", "0@0", 7, 6, x -> x.whole(7, 6, 0, 1), "1E5860", "2^5860");
        Trial.givesBoth("and with zeros", "9209..4096..0625@-8", "0@-8", 7, 6, x -> x.whole(7, 6, 0, 1), "1E5868", "2^5860");
        Trial.refused("one digit more", x -> x.whole(7, 6, 0, 1), "1E5861", "2^5861");
        for (int n : new int[] {4097, 4098, 4099, 4100, 5000, 99999}) {
            Trial.refused("1E" + n + " by 3", x -> x.whole(7, 6, 0, 1), "1E" + n, "3");
        }
        // 1 and eight zeros again and again, 456 times a 1; the zeros behind the last are not U's.
        Trial.givesBoth("4096 digits", "1000..4096..0001@0", "1@0", 7, 6, x -> x.whole(7, 6, 0, 1), "1E4104", "999999999");
        Trial.givesBoth("4096 digits and one zero", "1000..4096..0001@-1", "1@-1", 7, 6, x -> x.whole(7, 6, 0, 1), "1E4105", "999999999");
        Trial.givesBoth("4096 digits and zeros", "1000..4096..0001@-8", "1@-8", 7, 6, x -> x.whole(7, 6, 0, 1), "1E4112", "999999999");
        Trial.refused("4105 digits", x -> x.whole(7, 6, 0, 1), "1E4113", "999999999");
    }

    /** "T being a's scale divided by 2, cut towards 0. For a = 0: 0 with scale T". */
    private static void rootOfZero() {
        int[][] dues = {{0, 0}, {1, 0}, {2, 1}, {3, 1}, {4, 2}, {-1, 0}, {-2, -1}, {-3, -1}, {-4, -2}, {MAX, MAX / 2}, {MIN, MIN / 2}, {MIN + 1, MIN / 2 + 1}};
        for (int[] due : dues) {
            for (int precision : new int[] {1, 4096}) {
                Trial.gives("root of 0@" + due[0], "0@" + due[1], 7, x -> x.root(7, 0, precision, 7), "0E" + -(long) due[0]);
            }
        }
    }

    /** "When a decimal of at most so many digits is just the root: that, with the scale nearest to T". */
    private static void rootWithTheScaleNearestToT() {
        String[][] dues = {
            {"4", "5", "2@0"}, {"4.00", "5", "20@1"}, {"4.00", "1", "2@0"}, {"4.000", "5", "20@1"}, {"4.0000", "5", "200@2"}, {"4.0000", "2", "20@1"},
            {"4.0000", "1", "2@0"}, {"400", "5", "20@0"}, {"400", "1", "2@-1"}, {"4E2", "5", "2@-1"}, {"40E1", "5", "20@0"}, {"40E1", "1", "2@-1"},
            {"40E3", "5", "20@-1"}, {"1E6", "5", "1@-3"}, {"10E5", "5", "10@-2"}, {"1.44", "2", "12@1"}, {"1.440", "2", "12@1"}, {"0.0144", "9", "12@2"},
            {"0.010", "9", "1@1"}, {"1", "1", "1@0"}, {"1", "4096", "1@0"}, {"15241578750190521", "9", "123456789@0"}
        };
        for (String[] due : dues) {
            int precision = Integer.parseInt(due[1]);
            Trial.gives("root of " + due[0] + " in " + precision, due[2], 7, x -> x.root(7, 0, precision, 7), due[0]);
        }
        Trial.gives("of a long one", "1000..2048..0000@0", 7, x -> x.root(7, 0, 4096, 7), "10^4094");
        Trial.gives("of a long one in one", "1@-2047", 7, x -> x.root(7, 0, 1, 7), "10^4094");
    }

    /** "Otherwise rounded to the precision". */
    private static void rootRounded() {
        String[][] dues = {
            {"2", "1", "1@0", "2@0"}, {"2", "5", "14142@4", "14143@4"}, {"10", "4", "3162@3", "3163@3"}, {"0.1", "4", "3162@4", "3163@4"},
            {"1E1", "4", "3162@3", "3163@3"}, {"1E-3", "4", "3162@5", "3163@5"}, {"3", "9", "173205080@8", "173205081@8"},
            {"3", "10", "1732050807@9", "1732050808@9"}, {"99", "1", "9@0", "1@-1"}, {"99", "2", "99@1", "10@0"}, {"1.0000000001", "5", "10000@4", "10001@4"},
            {"0.9999999999", "5", "99999@5", "10000@4"}, {"6.25", "1", "2@0", "3@0"}
        };
        for (String[] due : dues) {
            int precision = Integer.parseInt(due[1]);
            String what = "root of " + due[0] + " in " + precision;
            Trial.gives(what + ", down", due[2], 7, x -> x.root(7, 0, precision, 1), due[0]);
            Trial.gives(what + ", smaller", due[2], 7, x -> x.root(7, 0, precision, 3), due[0]);
            Trial.gives(what + ", up", due[3], 7, x -> x.root(7, 0, precision, 0), due[0]);
            Trial.gives(what + ", greater", due[3], 7, x -> x.root(7, 0, precision, 2), due[0]);
            Trial.refused(what + ", refused", x -> x.root(7, 0, precision, 7), due[0]);
        }
        Trial.gives("half way", "2@0", 7, x -> x.root(7, 0, 1, 6), "6.25");
        Trial.gives("half way, odd", "4@0", 7, x -> x.root(7, 0, 1, 6), "12.25");
        Trial.gives("below half way", "2@0", 7, x -> x.root(7, 0, 1, 4), "6.24999999999999999999999999999999");
        Trial.gives("above half way", "3@0", 7, x -> x.root(7, 0, 1, 5), "6.25000000000000000000000000000001");
        Trial.gives("a long one in one", "1@-2048", 7, x -> x.root(7, 0, 1, 4), "9x4096");
        Trial.gives("a long one in one, down", "9@-2047", 7, x -> x.root(7, 0, 1, 1), "9x4096");
        Trial.gives("a long one of an odd scale", "3@-2047", 7, x -> x.root(7, 0, 1, 1), "9x4096@1");
    }

    private static void rootOfTheEnds() {
        Trial.gives("the greatest scale", "1@" + (MAX - 1) / 2, 7, x -> x.root(7, 0, 5, 7), "10" + TOP);
        Trial.gives("the greatest scale, rounded", "31622@1073741828", 7, x -> x.root(7, 0, 5, 1), "1" + TOP);
        Trial.gives("the least scale", "2@" + MIN / 2, 7, x -> x.root(7, 0, 5, 7), "4" + LOW);
        Trial.gives("the least scale, rounded", "14142@-1073741820", 7, x -> x.root(7, 0, 5, 1), "2" + LOW);
        Trial.gives("next to the least", "31622@-1073741819", 7, x -> x.root(7, 0, 5, 1), "1E2147483647");
    }

    /** "Refused, too, when a is below 0". */
    private static void rootBelowZeroIsRefused() {
        for (String a : new String[] {"-1", "-4", "-0.0001", "-1" + TOP, "-1" + LOW, "-9x4096"}) {
            for (int way = 0; way < 8; way++) {
                int w = way;
                Trial.refused("root of " + a, x -> x.root(7, 0, 5, w), a);
            }
        }
    }

    /** "or the precision is 0". */
    private static void rootWithoutPrecisionIsRefused() {
        for (String a : new String[] {"0", "4", "2", "-4"}) {
            for (int way = 0; way < 8; way++) {
                int w = way;
                Trial.refused("root of " + a, x -> x.root(7, 0, 0, w), a);
            }
        }
    }

    /** "d becomes a rounded to a scale". */
    private static void rescaleOfAnything() {
        Trial.gives("its own scale", "-125@2", 7, x -> x.rescale(7, 0, 2, 7), "-1.25");
        Trial.gives("one more", "-1250@3", 7, x -> x.rescale(7, 0, 3, 7), "-1.25");
        Trial.gives("one less", "-13@1", 7, x -> x.rescale(7, 0, 1, 0), "-1.25");
        Trial.gives("zeros off", "-125@2", 7, x -> x.rescale(7, 0, 2, 7), "-1.25000000000000");
        Trial.refused("a digit off", x -> x.rescale(7, 0, 1, 7), "-1.25000000000000");
        Trial.gives("zeros of tens", "1000@-1", 7, x -> x.rescale(7, 0, -1, 7), "1E4");
        Trial.gives("0 up", "0@" + MAX, 7, x -> x.rescale(7, 0, MAX, 7), "0" + LOW);
        Trial.gives("0 down", "0@" + MIN, 7, x -> x.rescale(7, 0, MIN, 7), "0" + TOP);
        for (int n = 1; n <= 30; n++) {
            int scale = n;
            Trial.gives(n + " zeros on", "7" + "0".repeat(n) + "@" + n, 7, x -> x.rescale(7, 0, scale, 7), "7");
            Trial.gives(n + " zeros off", "7@-" + n, 7, x -> x.rescale(7, 0, -scale, 7), "7" + "0".repeat(n));
            Trial.gives(n + " nines off", "8@-" + n, 7, x -> x.rescale(7, 0, -scale, 4), "7" + "9".repeat(n));
        }
    }

    private static void rescaleBeyondAllDigits() {
        Trial.gives("all of them, half up", "1@-4096", 7, x -> x.rescale(7, 0, -4096, 4), "9x4096");
        Trial.gives("all of them, half even", "1@-4096", 7, x -> x.rescale(7, 0, -4096, 6), "5x4096");
        Trial.gives("all of them, below half", "0@-4096", 7, x -> x.rescale(7, 0, -4096, 4), "4x4096");
        for (int scale : new int[] {-4097, -4098, -4099, -9999, MIN}) {
            Trial.gives("more than all, half up", "0@" + scale, 7, x -> x.rescale(7, 0, scale, 4), "9x4096");
            Trial.gives("more than all, up", "1@" + scale, 7, x -> x.rescale(7, 0, scale, 0), "9x4096");
            Trial.gives("more than all, smaller", "-1@" + scale, 7, x -> x.rescale(7, 0, scale, 3), "-9x4096");
            Trial.gives("more than all, greater", "0@" + scale, 7, x -> x.rescale(7, 0, scale, 2), "-9x4096");
            Trial.refused("more than all, refused", x -> x.rescale(7, 0, scale, 7), "9x4096");
        }
        Trial.gives("half way of one digit", "0@-1", 7, x -> x.rescale(7, 0, -1, 6), "5");
        Trial.gives("half way of one digit, up", "1@-1", 7, x -> x.rescale(7, 0, -1, 4), "5");
        Trial.gives("one digit, two off", "0@-2", 7, x -> x.rescale(7, 0, -2, 4), "9");
    }

    /** "with its own scale when no rounding is needed". */
    private static void roundWithItsOwnScale() {
        Trial.gives("just as many digits", "-1250@3", 7, x -> x.round(7, 0, 4, 7), "-1.250");
        Trial.gives("fewer than allowed", "-1250@3", 7, x -> x.round(7, 0, 5, 7), "-1.250");
        Trial.gives("0", "0@3", 7, x -> x.round(7, 0, 1, 7), "0.000");
        Trial.gives("zeros in front do not count", "12@5", 7, x -> x.round(7, 0, 2, 7), "0.00012");
        Trial.gives("the greatest scale", "12@" + MAX, 7, x -> x.round(7, 0, 2, 7), "12" + TOP);
        Trial.gives("the least scale", "12@" + MIN, 7, x -> x.round(7, 0, 2, 7), "12" + LOW);
        Trial.gives("the longest", "9999..4096..9999@0", 7, x -> x.round(7, 0, 4096, 7), "9x4096");
    }

    /** "(a precision of 0: never)". */
    private static void roundNeverWithPrecisionZero() {
        for (int way = 0; way < 8; way++) {
            int w = way;
            Trial.gives("one", "-1250@3", 7, x -> x.round(7, 0, 0, w), "-1.250");
            Trial.gives("0", "0@3", 7, x -> x.round(7, 0, 0, w), "0.000");
            Trial.gives("a long one", "9999..4096..9999@0", 7, x -> x.round(7, 0, 0, w), "9x4096");
        }
    }

    /** "When a has more digits than the precision, though a decimal with fewer has its value, ..". */
    private static void roundToJustSoManyDigits() {
        for (int way = 0; way < 8; way++) {
            int w = way;
            Trial.gives("one zero off", "1250@2", 7, x -> x.round(7, 0, 4, w), "12.500");
            Trial.gives("two off", "125@1", 7, x -> x.round(7, 0, 3, w), "12.500");
            Trial.gives("one off, one stays", "-120@-1", 7, x -> x.round(7, 0, 3, w), "-1200");
            Trial.gives("all off", "1@-4095", 7, x -> x.round(7, 0, 1, w), "10^4095");
        }
        Trial.gives("a digit off", "13@0", 7, x -> x.round(7, 0, 2, 4), "12.500");
        Trial.refused("a digit off, refused", x -> x.round(7, 0, 2, 7), "12.500");
    }

    /** "the decimal of a's value whose U ends in no 0". */
    private static void stripOfZeros() {
        Trial.gives("none", "-12@0", 7, x -> x.strip(7, 0), "-12");
        Trial.gives("zeros within", "1001@2", 7, x -> x.strip(7, 0), "10.01");
        Trial.gives("behind the point", "-12@0", 7, x -> x.strip(7, 0), "-12.000");
        Trial.gives("before the point", "12@-3", 7, x -> x.strip(7, 0), "12000");
        Trial.gives("the longest", "1@-4095", 7, x -> x.strip(7, 0), "10^4095");
        Trial.gives("none of the longest", "9999..4096..9999@3", 7, x -> x.strip(7, 0), "9x4096@3");
        for (int n = 1; n <= 30; n++) {
            Trial.gives(n + " zeros", "7@-" + n, 7, x -> x.strip(7, 0), "7" + "0".repeat(n));
            Trial.gives(n + " zeros of a longer one", "1234567890123@-" + n, 7, x -> x.strip(7, 0), "1234567890123" + "0".repeat(n));
        }
    }

    /** "0 with scale 0 for 0". */
    private static void stripOfZero() {
        for (String a : new String[] {"0", "0.000", "0E5", "0" + TOP, "0" + LOW}) {
            Trial.gives("strip of " + a, "0@0", 7, x -> x.strip(7, 0), a);
        }
    }

    /** "d becomes a with a scale less by n". */
    private static void moveByAnything() {
        for (String u : new String[] {"7", "-7", "0"}) {
            Trial.gives("by 0", u + "@1", 7, x -> x.move(7, 0, 0), u + "E-1");
            Trial.gives("by 3", u + "@-2", 7, x -> x.move(7, 0, 3), u + "E-1");
            Trial.gives("by -3", u + "@4", 7, x -> x.move(7, 0, -3), u + "E-1");
            Trial.gives("down to the end", u + "@" + MIN, 7, x -> x.move(7, 0, MAX), u + "E1");
            Trial.refused("below it", x -> x.move(7, 0, MAX), u + "E2");
            Trial.gives("up to the end", u + "@" + MAX, 7, x -> x.move(7, 0, MIN), u + "E1");
            Trial.refused("above it", x -> x.move(7, 0, MIN), u + "E0");
            Trial.gives("from end to end, less 1", u + "@-1", 7, x -> x.move(7, 0, MIN) && x.move(7, 7, MAX) && x.move(7, 7, 1), u + "E1");
            Trial.refused("from the upper end, up", x -> x.move(7, 0, MIN), u + TOP);
            Trial.refused("from the lower end, down", x -> x.move(7, 0, MAX), u + LOW);
            Trial.gives("from the upper end, down", u + "@0", 7, x -> x.move(7, 0, MAX), u + TOP);
            Trial.gives("from the lower end, up", u + "@0", 7, x -> x.move(7, 0, MIN), u + LOW);
        }
        Trial.gives("a long one", "-9999..4096..9999@-2", 7, x -> x.move(7, 0, 5), "-9x4096@3");
    }
}
