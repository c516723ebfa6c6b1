/**
 * Promises 16 to 24, sentence by sentence: what calls answer about registers, and both texts. Each
 * sentence that names a boundary case, or that has one, is tried at it and next to it.
 */
public final class AnswerBoundariesTest {
    private static final int MAX = Integer.MAX_VALUE;
    private static final int MIN = Integer.MIN_VALUE;
    private static final String TOP = "E-2147483647";
    private static final String LOW = "E2147483648";
    private static final int[] NONE = {-1, 8, 256, MAX, MIN};

    private AnswerBoundariesTest() {}

    public static void main(String[] args) {
        compareBelowEqualAbove();
        compareOfValuesNotOfScales();
        compareOfFarScales();
        compareOfLongOnes();
        signBelowEqualAbove();
        precisionFromOneTo4096();
        scaleFromEndToEnd();
        digitFromTheLowest();
        digitWhereThereIsNone();
        typeFromTheHighestToTheLowest();
        typeLeavesZerosOut();
        typeIsRefusedAbove126();
        typeIsRefusedAbove6000();
        readEmptiesTheText();
        readEmptiesTheTextWhenRefused();
        readOfASign();
        readOfAPoint();
        readNeedsADigit();
        readOfAnExponent();
        readNeedsADigitBehindE();
        readCountsTheScale();
        readAtTheEndsOfScales();
        readAtTheMostDigits();
        readOfAnythingElseIsRefused();
        readOfEachCharacter();
        writeInFrontOfOneBelowZero();
        writePlain();
        writePlainOfZero();
        writeWithAnExponent();
        writeByThrees();
        writeByThreesOfZero();
        writeExponentZeroIsLeftOut();
        writeExponentsOfTheEnds();
        writeOfNoRegister();
        writeInNoOtherWay();
        writeAtMost6000();
        writeOfTheLongest();
        characterAtWhereThereIsNone();
        characterAtOfTheLatest();
        characterAtOfTheLatestOfTwo();
        Bench.end();
    }

    private static void compared(int due, String a, String b) {
        Trial.answers(a + " and " + b, due, x -> x.compare(0, 1), a, b);
        Trial.answers(b + " and " + a, -due, x -> x.compare(1, 0), a, b);
    }

    /** "-1, 0 or 1 when a's value is below, equal to or above b's". */
    private static void compareBelowEqualAbove() {
        String[] rising = {"-1E9", "-10", "-9.99", "-1E-9", "0", "1E-9", "0.1", "9.99", "10", "10.01", "1E9", "1000000001"};
        for (int a = 0; a < rising.length; a++) {
            for (int b = 0; b < rising.length; b++) {
                compared(Integer.compare(a, b), rising[a], rising[b]);
            }
        }
        Trial.answers("with itself", 0, x -> x.compare(0, 0), "-2.5");
    }

    private static void compareOfValuesNotOfScales() {
        compared(0, "2.5", "2.500000000000");
        compared(0, "-1E3", "-1000");
        compared(0, "1E9", "1000000000.0");
        compared(0, "0E9", "0E-9");
        compared(0, "0" + TOP, "0" + LOW);
        compared(-1, "2.5", "2.5000000000001");
        compared(1, "-2.5", "-2.5000000000001");
        compared(-1, "9", "1E1");
        compared(1, "11", "1E1");
    }

    private static void compareOfFarScales() {
        compared(1, "1" + LOW, "9" + TOP);
        compared(-1, "-1" + LOW, "9" + TOP);
        compared(-1, "-1" + LOW, "-9" + TOP);
        compared(1, "1" + TOP, "0" + LOW);
        compared(-1, "-1" + TOP, "0" + LOW);
        compared(1, "1" + LOW, "0" + LOW);
        compared(-1, "1" + LOW, "11" + LOW);
        compared(-1, "1" + TOP, "11" + TOP);
        compared(0, "10E2147483647", "1" + LOW);
        compared(0, "10" + TOP, "1E-2147483646");
    }

    private static void compareOfLongOnes() {
        compared(0, "10^4095", "1E4095");
        compared(-1, "9x4096", "1E4096");
        compared(1, "9x4096", "9x4095@-1");
        compared(-1, "9x4095", "10^4095");
        compared(1, "-9x4096@4096", "-1");
        compared(0, "7x4096@4096", "7x4096@4096");
        compared(-1, "7x4096@4096", "7x4096@4095");
        compared(-1, "7x4095@4095", "7x4096@4096");
    }

    /** "-1, 0 or 1 as a is below, equal to or above 0; -2 when it is no register". */
    private static void signBelowEqualAbove() {
        Trial.answers("below", -1, x -> x.sign(0), "-1" + TOP);
        Trial.answers("equal", 0, x -> x.sign(0), "-0" + LOW);
        Trial.answers("above", 1, x -> x.sign(0), "1" + TOP);
        Trial.answers("a long one below", -1, x -> x.sign(0), "-9x4096");
        Trial.answers("a long one above", 1, x -> x.sign(0), "9x4096");
        for (int none : NONE) {
            Trial.answers("no register", -2, x -> x.sign(none), "1");
        }
    }

    /** "The PRECISION of a; -1 when it is no register". */
    private static void precisionFromOneTo4096() {
        Trial.answers("of 0", 1, x -> x.precision(0), "0");
        Trial.answers("of one digit", 1, x -> x.precision(0), "-9");
        Trial.answers("of two", 2, x -> x.precision(0), "0.010");
        Trial.answers("of the longest", 4096, x -> x.precision(0), "-10^4095");
        for (int none : NONE) {
            Trial.answers("no register", -1, x -> x.precision(none), "12");
        }
    }

    /** "The SCALE of a; 0 when it is no register". */
    private static void scaleFromEndToEnd() {
        Trial.answers("the greatest", MAX, x -> x.scale(0), "1" + TOP);
        Trial.answers("the least", MIN, x -> x.scale(0), "0" + LOW);
        Trial.answers("0", 0, x -> x.scale(0), "100");
        Trial.answers("one", 1, x -> x.scale(0), "-0.1");
        for (int none : NONE) {
            Trial.answers("no register", 0, x -> x.scale(none), "0.1", "0.1", "0.1", "0.1", "0.1", "0.1", "0.1", "0.1");
        }
    }

    /** "Digit k, from 0, the lowest, of a's U". */
    private static void digitFromTheLowest() {
        String digits = "12345678901234567890123456789";
        for (int k = 0; k < digits.length(); k++) {
            int place = k;
            int due = digits.charAt(digits.length() - 1 - k) - '0';
            Trial.answers("digit " + k, due, x -> x.digit(0, place), digits);
            Trial.answers("digit " + k + " below 0", due, x -> x.digit(0, place), "-" + digits.substring(0, 9) + "." + digits.substring(9));
        }
        Trial.answers("of 0", 0, x -> x.digit(0, 0), "0.00");
        Trial.answers("the highest of the longest", 1, x -> x.digit(0, 4095), "10^4095");
        Trial.answers("the next", 0, x -> x.digit(0, 4094), "10^4095");
    }

    /** "-1 when there is none such". */
    private static void digitWhereThereIsNone() {
        for (int k : new int[] {-1, 3, 4, 9, 4096, MAX, MIN}) {
            Trial.answers("digit " + k + " of 123", -1, x -> x.digit(0, k), "123");
        }
        for (int k : new int[] {-1, 1, 9, MAX, MIN}) {
            Trial.answers("digit " + k + " of 0.00", -1, x -> x.digit(0, k), "0.00");
        }
        for (int k : new int[] {-1, 4096, 4097, MAX, MIN}) {
            Trial.answers("digit " + k + " of the longest", -1, x -> x.digit(0, k), "9x4096");
        }
        for (int n = 1; n <= 28; n++) {
            int k = n;
            Trial.answers("digit " + k, -1, x -> x.digit(0, k), "9x" + n);
        }
        for (int none : NONE) {
            Trial.answers("no register", -1, x -> x.digit(none, 0), "123");
        }
    }

    /** "Appends to the TEXT the characters that are the bytes of eight, from the highest to the lowest". */
    private static void typeFromTheHighestToTheLowest() {
        TensMill x = new TensMill();
        Bench.due("eight", true, x.type(0x3132333435363738L));
        Bench.due("read", "12345678@0", Bench.shown(x.read(0), x, 0));
        Bench.due("one", true, x.type(0x31L));
        Bench.due("is appended to", true, x.type(0x322E33L));
        Bench.due("and to", true, x.type(0x3400000000000000L));
        Bench.due("read", "1234@2", Bench.shown(x.read(0), x, 0));
    }

    /** "zeros left out". */
    private static void typeLeavesZerosOut() {
        for (int place = 0; place < 8; place++) {
            TensMill x = new TensMill();
            Bench.due("one byte, " + place, true, x.type(0x37L << 8 * place));
            Bench.due("one character, " + place, "7@0", Bench.shown(x.read(0), x, 0));
            long seven = 0x3132333435363738L & ~(0xFFL << 8 * place);
            String due = new StringBuilder("12345678").deleteCharAt(7 - place) + "@0";
            Bench.due("seven bytes, " + place, true, x.type(seven));
            Bench.due("seven characters, " + place, due, Bench.shown(x.read(0), x, 0));
        }
        TensMill x = new TensMill();
        Bench.due("all of them", true, x.type(0L));
        Bench.due("that is nothing", false, x.read(0));
        Bench.due("here and there", true, x.type(0x0031003200003300L));
        Bench.due("here and there", "123@0", Bench.shown(x.read(0), x, 0));
    }

    /** "Refused when a byte is above 126": nothing of it is appended, and the text before stands. */
    private static void typeIsRefusedAbove126() {
        for (int place = 0; place < 8; place++) {
            for (int code : new int[] {127, 128, 129, 200, 254, 255}) {
                long eight = 0x3132333435363738L & ~(0xFFL << 8 * place) | (long) code << 8 * place;
                Trial.refused("a byte " + code + " in place " + place, x -> x.type(eight), "7");
                long alone = (long) code << 8 * place;
                Trial.refused("the only byte " + code + " in place " + place, x -> x.type(alone), "7");
            }
            // 126 itself is a character, though no number has it.
            TensMill x = new TensMill();
            Bench.due("a byte 126 in place " + place, true, x.type(126L << 8 * place));
            Bench.type(x, "5");
            Bench.due("it is in the text", false, x.read(0));
        }
    }

    /** "or there would be more than 6000": more than 512 calls can type, but it holds there too. */
    private static void typeIsRefusedAbove6000() {
        for (int last = 1; last <= 8; last++) {
            TensMill x = new TensMill();
            int before = 6000 - last;
            Bench.type(x, "0".repeat(before));
            long nines = 0x3939393939393939L;
            if (last < 8) {
                Bench.due("one above 6000", false, x.type(nines >>> 8 * (7 - last)));
                Bench.due("eight at once", false, x.type(nines));
            }
            Bench.due("6000", true, x.type(nines >>> 8 * (8 - last)));
            Bench.due("one more", false, x.type(0x31L));
            Bench.due("eight more", false, x.type(nines));
            Bench.due("none more", true, x.type(0L));
            Bench.due("read", "9".repeat(last) + "@0", Bench.shown(x.read(0), x, 0));
            Bench.due("there is room again", true, x.type(0x31L));
            Bench.due("and read again", "1@0", Bench.shown(x.read(0), x, 0));
        }
    }

    private static void reads(String text, String due) {
        TensMill x = Trial.mill("7.7");
        x.read(7);
        Bench.due("read of " + text, due, Bench.shown(Bench.read(x, 0, text), x, 0));
        Bench.due("read of " + text + ": the text is empty", false, x.read(0));
        Bench.due("read of " + text + ": and that changes nothing", due, Bench.show(x, 0));
        Bench.due("read of " + text + ": what was laid out", "-1.5", Bench.laid(x));
    }

    private static void readsNot(String text) {
        TensMill x = Trial.mill("7.7");
        x.read(7);
        Bench.due("read of '" + text + "'", false, Bench.read(x, 0, text));
        Bench.due("read of '" + text + "' changes nothing", "77@1", Bench.show(x, 0));
        Bench.due("read of '" + text + "': the text is empty", "5@0", Bench.shown(Bench.read(x, 0, "5"), x, 0));
        Bench.due("read of '" + text + "': what was laid out", "-1.5", Bench.laid(x));
    }

    /** "d becomes what the TEXT says, which is empty then". */
    private static void readEmptiesTheText() {
        for (int d = 0; d < 8; d++) {
            TensMill x = new TensMill();
            Bench.due("read", "-125@1", Bench.shown(Bench.read(x, d, "-12.5"), x, d));
            Bench.due("empty", false, x.read(d));
            Bench.due("it stays", "-125@1", Bench.show(x, d));
            Bench.due("read anew", "3@0", Bench.shown(Bench.read(x, d, "3"), x, d));
        }
    }

    /** "also when it is refused", for each reason that there is. */
    private static void readEmptiesTheTextWhenRefused() {
        for (int none : NONE) {
            TensMill x = new TensMill();
            Bench.due("no register", false, Bench.read(x, none, "12"));
            Bench.due("empty", false, x.read(0));
            Bench.due("read anew", "3@0", Bench.shown(Bench.read(x, 0, "3"), x, 0));
            Bench.due("no register, no number", false, Bench.read(x, none, "x"));
            Bench.due("read anew", "4@0", Bench.shown(Bench.read(x, 0, "4"), x, 0));
        }
        for (String refused : new String[] {"x", "1x", "1E2147483649", "1E-2147483648", "1".repeat(4097)}) {
            TensMill x = new TensMill();
            Bench.due("refused", false, Bench.read(x, 0, refused));
            Bench.due("empty", false, x.read(0));
            Bench.due("nothing changed", "0@0", Bench.show(x, 0));
            Bench.due("read anew", "3@0", Bench.shown(Bench.read(x, 0, "3"), x, 0));
        }
    }

    /** "+ or - or nothing". */
    private static void readOfASign() {
        reads("12", "12@0");
        reads("+12", "12@0");
        reads("-12", "-12@0");
        reads("-0", "0@0");
        reads("+0", "0@0");
        reads("-0.0", "0@1");
        for (String wrong : new String[] {"++1", "--1", "+-1", "-+1", "1-", "1+", " 1", "- 1", "1-2", ".-1", "-"}) {
            readsNot(wrong);
        }
        TensMill x = Bench.mill("-0");
        Bench.due("-0 has no sign", 0, x.sign(0));
    }

    /** "digits, perhaps a point among them, before or behind all". */
    private static void readOfAPoint() {
        reads("1.25", "125@2");
        reads(".125", "125@3");
        reads("125.", "125@0");
        reads("-.5", "-5@1");
        reads("+5.", "5@0");
        reads("5.E1", "5@-1");
        reads(".5e1", "5@0");
        reads("0.", "0@0");
        reads(".0", "0@1");
        for (String wrong : new String[] {"1..2", "1.2.3", "..1", "1..", ".1.", ".+1", "1,2", "1e.5", "1e5."}) {
            readsNot(wrong);
        }
    }

    /** "(at least one digit in all)". */
    private static void readNeedsADigit() {
        for (String wrong : new String[] {"", "+", "-", ".", "+.", "-.", "e5", "E5", ".e5", "+e5", "-.E5", "E", "."}) {
            readsNot(wrong);
        }
        reads("5", "5@0");
        reads("0", "0@0");
    }

    /** "then perhaps e or E, + or - or nothing". */
    private static void readOfAnExponent() {
        reads("12e3", "12@-3");
        reads("12E3", "12@-3");
        reads("12e+3", "12@-3");
        reads("12E-3", "12@3");
        reads("12e-0", "12@0");
        reads("12E+0", "12@0");
        reads("0E5", "0@-5");
        reads("1E00000000000000000000000000000000000000000000012", "1@-12");
        reads("1E-00000000000000000000000000000000000000000000012", "1@12");
        for (String wrong : new String[] {"1ee5", "1eE5", "1e5e5", "1e++5", "1e+-5", "1e5+", "1e5-", "1e 5", "1f5", "1d", "1e5 ", "1 e5", "1e5x"}) {
            readsNot(wrong);
        }
    }

    /** "and at least one digit". */
    private static void readNeedsADigitBehindE() {
        for (String wrong : new String[] {"1e", "1E", "1e+", "1E-", "1.e", ".1E+", "0e"}) {
            readsNot(wrong);
        }
        reads("1e0", "1@0");
    }

    /** "U is made of all digits with the sign, S is how many stand behind the point, less what stands behind the E". */
    private static void readCountsTheScale() {
        reads("-12.3450", "-123450@4");
        reads("-12.3450E2", "-123450@2");
        reads("-12.3450E4", "-123450@0");
        reads("-12.3450E6", "-123450@-2");
        reads("-12.3450E-6", "-123450@10");
        reads("000.000", "0@3");
        reads("00012.30", "1230@2");
        reads("0.0000000000000000000000000012", "12@28");
        reads("120000000000000000000000000000000000.0", "1200000000000000000000000000000000000@1");
        reads("1000000000", "1000000000@0");
        reads("999999999", "999999999@0");
        reads("1234567890123456789.0123456789", "12345678901234567890123456789@10");
    }

    private static void readAtTheEndsOfScales() {
        reads("7E-2147483647", "7@" + MAX);
        reads("7E2147483648", "7@" + MIN);
        reads("0E-2147483647", "0@" + MAX);
        reads("0E2147483648", "0@" + MIN);
        reads(".7E-2147483646", "7@" + MAX);
        reads(".7E2147483649", "7@" + MIN);
        reads("7.00E2147483650", "700@" + MIN);
        String[] beyond = {"7E-2147483648", "7E2147483649", "0E-2147483648", "0E2147483649", ".7E-2147483647", ".7E2147483650", "7E4294967296",
            "7E-4294967296", "7E4294967297", "7E9223372036854775807", "7E9223372036854775808", "7E18446744073709551616", "7E-18446744073709551616",
            "7E18446744073709551617", "7E-18446744073709551617", "7E" + "9".repeat(300), "7E-" + "9".repeat(300), "0E1" + "0".repeat(300)};
        for (String wrong : beyond) {
            readsNot(wrong);
        }
    }

    private static void readAtTheMostDigits() {
        TensMill x = new TensMill();
        Bench.due("4096 digits", true, Bench.read(x, 0, "-" + "7".repeat(4000) + "." + "7".repeat(96)));
        Bench.due("4096 digits", "-7777..4096..7777@96", Trial.glance(x, 0));
        Bench.due("zeros in front", true, Bench.read(x, 1, "0".repeat(1900) + "7".repeat(4096) + "E5"));
        Bench.due("zeros in front", "7777..4096..7777@-5", Trial.glance(x, 1));
        Bench.due("zeros behind the point", true, Bench.read(x, 2, "." + "0".repeat(5998) + "7"));
        Bench.due("zeros behind the point", "7@5999", Trial.glance(x, 2));
        Bench.due("6000 zeros", true, Bench.read(x, 3, "0".repeat(6000)));
        Bench.due("6000 zeros", "0@0", Trial.glance(x, 3));
        Bench.due("4097 digits", false, Bench.read(x, 4, "7".repeat(4097)));
        Bench.due("4097 digits with a point", false, Bench.read(x, 4, "7".repeat(4096) + ".0"));
        Bench.due("4097 digits of zeros", false, Bench.read(x, 4, "1" + "0".repeat(4096)));
        Bench.due("6000 digits", false, Bench.read(x, 4, "7".repeat(6000)));
        Bench.due("nothing changed", "0@0", Trial.glance(x, 4));
    }

    /** "Refused, too, when it is not so". */
    private static void readOfAnythingElseIsRefused() {
        for (String wrong : new String[] {"x", "1x", "x1", "0x1", "1 2", " ", "1 ", "1_0", "NaN", "Infinity", "1L", "1E5L", "12.5%", "1/2", "(1)", "1:", "1;", "#1"}) {
            readsNot(wrong);
        }
    }

    /** Every character that can be typed, alone, in front, among digits, behind the E and last. */
    private static void readOfEachCharacter() {
        for (char c = 1; c <= 126; c++) {
            boolean digit = c >= '0' && c <= '9';
            String[] texts = {"" + c, c + "12", "1" + c + "2", "12" + c, "1E" + c + "2", "1E" + c, "1E2" + c};
            boolean[] dues = {digit, digit || c == '+' || c == '-' || c == '.', digit || c == '.' || c == 'e' || c == 'E', digit || c == '.',
                digit || c == '+' || c == '-', digit, digit};
            for (int i = 0; i < texts.length; i++) {
                TensMill x = new TensMill();
                Bench.due("read of '" + texts[i] + "' (" + (int) c + ")", dues[i], Bench.read(x, 0, texts[i]));
            }
        }
    }

    private static void writes(int how, String[]... dues) {
        for (String[] due : dues) {
            TensMill x = Bench.mill(due[0]);
            Bench.due(due[0] + " laid out, " + how, due[1], Bench.written(x, 0, how));
            Bench.due("none behind it", -1, x.characterAt(due[1].length()));
        }
    }

    /** 'In front "-" if U is below 0'. */
    private static void writeInFrontOfOneBelowZero() {
        for (int how = 0; how < 3; how++) {
            writes(how, new String[][] {{"-5", "-5"}, {"5", "5"}, {"-0", "0"}, {"-0.05", "-0.05"}, {"-1.50", "-1.50"}});
        }
        writes(0, new String[][] {{"-1E3", "-1E+3"}, {"-0E3", "0E+3"}, {"-12E-9", "-1.2E-8"}});
        writes(1, new String[][] {{"-1E4", "-10E+3"}, {"-0E3", "0E+3"}, {"-12E-9", "-12E-9"}});
        writes(2, new String[][] {{"-1E3", "-1000"}, {"-0E3", "0"}, {"-12E-9", "-0.000000012"}});
    }

    /** "how 2: without an exponent": S above, at and below 0. */
    private static void writePlain() {
        writes(2, new String[][] {
            {"125.00", "125.00"}, {"12.5", "12.5"}, {"1.25", "1.25"}, {"0.125", "0.125"}, {"0.0125", "0.0125"}, {"125E-3", "0.125"}, {"125E-2", "1.25"},
            {"125E-4", "0.0125"}, {"125", "125"}, {"125E0", "125"}, {"125E1", "1250"}, {"125E12", "125000000000000"}, {"1E-12", "0.000000000001"},
            {"1E-6", "0.000001"}, {"1E-7", "0.0000001"}, {"1234567890E-10", "0.1234567890"}, {"1234567890E-9", "1.234567890"}, {"1000E-3", "1.000"},
            {"1E9", "1000000000"}, {"1E18", "1000000000000000000"}
        });
    }

    /** "but 0 alone for 0", and "zeros put in front so that one digit stands before it". */
    private static void writePlainOfZero() {
        writes(2, new String[][] {{"0", "0"}, {"0E1", "0"}, {"0E5999", "0"}, {"0" + LOW, "0"}, {"0E-1", "0.0"}, {"0E-3", "0.000"}, {"0E-9", "0.000000000"}});
    }

    /** "how 0: as how 2 if S is not below 0 and E not below -6. Otherwise the first digit, a point and the others". */
    private static void writeWithAnExponent() {
        writes(0, new String[][] {
            {"125", "125"}, {"125E-1", "12.5"}, {"125E1", "1.25E+3"}, {"1E1", "1E+1"}, {"10E1", "1.0E+2"}, {"0", "0"}, {"0E1", "0E+1"}, {"0E-1", "0.0"},
            {"1E-6", "0.000001"}, {"1E-7", "1E-7"}, {"12E-7", "0.0000012"}, {"12E-8", "1.2E-7"}, {"123456789E-14", "0.00000123456789"},
            {"123456789E-15", "1.23456789E-7"}, {"0E-6", "0.000000"}, {"0E-7", "0E-7"}, {"0E-8", "0E-8"}, {"10E-7", "0.0000010"}, {"10E-8", "1.0E-7"},
            {"1E9", "1E+9"}, {"1E10", "1E+10"}, {"99E8", "9.9E+9"}, {"99E9", "9.9E+10"}, {"1E99", "1E+99"}, {"1E100", "1E+100"}, {"1E-99", "1E-99"},
            {"1E-100", "1E-100"}, {"1E-10", "1E-10"}, {"1E-9", "1E-9"}, {"1234567890123", "1234567890123"}, {"1234567890123E1", "1.234567890123E+13"}
        });
    }

    /** "how 1: .. the exponent is the greatest multiple of 3 that is not above E, and as many digits more stand before the point". */
    private static void writeByThrees() {
        writes(1, new String[][] {
            {"125", "125"}, {"125E-1", "12.5"}, {"125E1", "1.25E+3"}, {"125E2", "12.5E+3"}, {"125E3", "125E+3"}, {"125E4", "1.25E+6"}, {"1E3", "1E+3"},
            {"1E4", "10E+3"}, {"1E5", "100E+3"}, {"1E6", "1E+6"}, {"12E3", "12E+3"}, {"12E4", "120E+3"}, {"12E5", "1.2E+6"}, {"1234E1", "12.34E+3"},
            {"1234E2", "123.4E+3"}, {"1234E3", "1.234E+6"}, {"1E-6", "0.000001"}, {"1E-7", "100E-9"}, {"1E-8", "10E-9"}, {"1E-9", "1E-9"}, {"1E-10", "100E-12"},
            {"1E-11", "10E-12"}, {"1E-12", "1E-12"}, {"12E-8", "120E-9"}, {"12E-9", "12E-9"}, {"12E-10", "1.2E-9"}, {"123E-9", "123E-9"}, {"123E-10", "12.3E-9"},
            {"123E-11", "1.23E-9"}, {"123E-12", "123E-12"}, {"1234E-10", "123.4E-9"}, {"1E999", "1E+999"}, {"1E1000", "10E+999"}, {"1E-999", "1E-999"},
            {"1E-1000", "100E-1002"}, {"100E1", "1.00E+3"}, {"100E3", "100E+3"}
        });
    }

    /** 'For U = 0: the exponent is the least multiple of 3 that is not below E; "0" .. "0.0" .. "0.00"'. */
    private static void writeByThreesOfZero() {
        writes(1, new String[][] {
            {"0", "0"}, {"0E1", "0.00E+3"}, {"0E2", "0.0E+3"}, {"0E3", "0E+3"}, {"0E4", "0.00E+6"}, {"0E5", "0.0E+6"}, {"0E6", "0E+6"}, {"0E-1", "0.0"},
            {"0E-2", "0.00"}, {"0E-3", "0.000"}, {"0E-6", "0.000000"}, {"0E-7", "0.0E-6"}, {"0E-8", "0.00E-6"}, {"0E-9", "0E-9"}, {"0E-10", "0.0E-9"},
            {"0E-11", "0.00E-9"}, {"0E-12", "0E-12"}, {"0E999", "0E+999"}, {"0E1000", "0.00E+1002"}, {"0E-1000", "0.0E-999"}
        });
    }

    /** "one that is 0 is left out". */
    private static void writeExponentZeroIsLeftOut() {
        writes(1, new String[][] {{"1E1", "10"}, {"1E2", "100"}, {"12E1", "120"}, {"-1E2", "-100"}, {"123E0", "123"}});
        writes(0, new String[][] {{"1E0", "1"}, {"12E-1", "1.2"}});
    }

    private static void writeExponentsOfTheEnds() {
        writes(0, new String[][] {
            {"1" + LOW, "1E+2147483648"}, {"1" + TOP, "1E-2147483647"}, {"0" + LOW, "0E+2147483648"}, {"0" + TOP, "0E-2147483647"},
            {"-12" + LOW, "-1.2E+2147483649"}, {"-12" + TOP, "-1.2E-2147483646"}
        });
        writes(1, new String[][] {
            {"1" + LOW, "100E+2147483646"}, {"1" + TOP, "100E-2147483649"}, {"0" + LOW, "0.0E+2147483649"}, {"0" + TOP, "0.0E-2147483646"},
            {"-12" + LOW, "-1.2E+2147483649"}, {"-12" + TOP, "-1.2E-2147483646"}, {"123" + LOW, "12.3E+2147483649"}, {"0E-2147483646", "0E-2147483646"}
        });
        TensMill x = Trial.mill("9x4096@" + MIN);
        Bench.due("the greatest exponent of all", 4096 + 1 + 12, x.write(0, 0));
        Bench.due("the greatest exponent of all", "E+2147487743", Bench.laid(x).substring(4097));
    }

    /** "-1, and nothing is new, when a is no register". */
    private static void writeOfNoRegister() {
        for (int none : NONE) {
            for (int how = 0; how < 3; how++) {
                int h = how;
                Trial.answers("no register", -1, x -> x.write(none, h), "12");
            }
        }
    }

    /** "how not 0 .. 2". */
    private static void writeInNoOtherWay() {
        for (int how : new int[] {-1, 3, 4, 256, MAX, MIN}) {
            Trial.answers("how " + how, -1, x -> x.write(0, how), "12");
            Trial.answers("how " + how + " of 0", -1, x -> x.write(0, how), "0E5");
            Trial.answers("how " + how + " of one with an exponent", -1, x -> x.write(0, how), "12E5");
        }
    }

    /** "or there would be more than 6000": at 6000 there are not. */
    private static void writeAtMost6000() {
        String[][] held = {{"1E5999", "10"}, {"-1E5998", "-0"}, {"12E5998", "10"}, {"1E-5998", "01"}, {"-1E-5997", "-1"}, {"0E-5998", "00"}, {"123E-5998", "03"}};
        for (String[] due : held) {
            TensMill x = Bench.mill(due[0]);
            Bench.due("6000 of " + due[0], 6000, x.write(0, 2));
            Bench.due("the first", (int) due[1].charAt(0), x.characterAt(0));
            Bench.due("the last", (int) due[1].charAt(1), x.characterAt(5999));
            Bench.due("none behind it", -1, x.characterAt(6000));
        }
        for (String wrong : new String[] {"1E6000", "-1E5999", "12E5999", "1E-5999", "-1E-5998", "0E-5999", "123E-5999", "1" + LOW, "-1" + LOW, "1" + TOP, "0" + TOP}) {
            Trial.answers("6001 of " + wrong, -1, x -> x.write(0, 2), wrong);
        }
        Trial.answers("a long one with zeros", -1, x -> x.write(0, 2), "9x4096@-1905");
        Trial.answers("a long one with zeros in front", -1, x -> x.write(0, 2), "9x4096@5999");
        Trial.answers("a long one below 0 with zeros", -1, x -> x.write(0, 2), "-9x4096@-1904");
        TensMill x = Trial.mill("9x4096@-1904", "9x4096@5998");
        Bench.due("a long one with 1904 zeros", 6000, x.write(0, 2));
        Bench.due("a long one with 1902 zeros and a point in front", 6000, x.write(1, 2));
    }

    private static void writeOfTheLongest() {
        TensMill x = Trial.mill("9x4096", "-9x4096@4095", "9x4096@4096", "9x4096@4102", "9x4096@4103", "9x4096@-1");
        for (int how = 0; how < 3; how++) {
            Bench.due("a whole one", 4096, x.write(0, how));
            Bench.due("with a sign and a point", 4098, x.write(1, how));
            Bench.due("below 1", 4098, x.write(2, how));
            Bench.due("E is -7", new int[] {4100, 4100, 4104}[how], x.write(3, how));
        }
        Bench.due("E is -8", 4100, x.write(4, 0));
        Bench.due("E is -8, by threes", 4100, x.write(4, 1));
        Bench.due("where its point stands", (int) '.', x.characterAt(2));
        Bench.due("E is 4096", 4103, x.write(5, 0));
        Bench.due("where its point stands", (int) '.', x.characterAt(1));
        Bench.due("E is 4096, by threes", 4103, x.write(5, 1));
        Bench.due("where its point stands", (int) '.', x.characterAt(2));
        Bench.due("plain", 4097, x.write(5, 2));
        Bench.due("its zero", (int) '0', x.characterAt(4096));
    }

    /** "The code of character k, from 0, .. -1 when there is none". */
    private static void characterAtWhereThereIsNone() {
        for (int k : new int[] {-1, 4, 5, 16, 5999, 6000, MAX, MIN}) {
            Trial.answers("character " + k, -1, x -> x.characterAt(k), "12");
        }
        int[] codes = {'-', '1', '.', '5'};
        for (int i = 0; i < codes.length; i++) {
            int k = i;
            Trial.answers("character " + k, codes[k], x -> x.characterAt(k), "12");
        }
        Bench.due("of a new one", -1, new TensMill().characterAt(0));
    }

    /** Each layout behind each other one. */
    private static void characterAtOfTheLatestOfTwo() {
        String[][] all = {
            {"-0.005", "-0.005", "-0.005", "-0.005"}, {"12E3", "1.2E+4", "12E+3", "12000"}, {"0E-7", "0E-7", "0.0E-6", "0.0000000"},
            {"-1E-9", "-1E-9", "-1E-9", "-0.000000001"}, {"1E2", "1E+2", "100", "100"}, {"0E2", "0E+2", "0.0E+3", "0"}, {"7", "7", "7", "7"},
            {"1234567890.5", "1234567890.5", "1234567890.5", "1234567890.5"}
        };
        for (int i = 0; i < all.length * 3; i++) {
            for (int k = 0; k < all.length * 3; k++) {
                TensMill x = Bench.mill(all[i / 3][0], all[k / 3][0]);
                Bench.due("first", all[i / 3][1 + i % 3], Bench.written(x, 0, i % 3));
                Bench.due("then", all[k / 3][1 + k % 3], Bench.written(x, 1, k % 3));
            }
        }
    }

    /** "of what was laid out latest". */
    private static void characterAtOfTheLatest() {
        TensMill x = Bench.mill("-12.5", "7", "1E9999");
        Bench.due("a first", "-12.5", Bench.written(x, 0, 0));
        x.put(0, 3, 0);
        Bench.due("its register is new, the text is not", "-12.5", Bench.laid(x));
        Bench.due("a shorter one", "7", Bench.written(x, 1, 0));
        Bench.due("none behind it", -1, x.characterAt(1));
        Bench.due("one too long", -1, x.write(2, 2));
        Bench.due("nothing is new", "7", Bench.laid(x));
        Bench.due("a longer one", "1E+9999", Bench.written(x, 2, 0));
        Bench.due("read and typed texts are another", "5@0", Bench.shown(Bench.read(x, 0, "5"), x, 0));
        Bench.due("nothing is new", "1E+9999", Bench.laid(x));
    }
}
