/** Each promise by itself: ordinary calls, the edges that the document names, wrong calls. */
public final class PromiseTest {
    private static final int MAX = Integer.MAX_VALUE;
    private static final int MIN = Integer.MIN_VALUE;
    private static final int[] NO_REGISTERS = {-1, 8, MAX, MIN};

    private PromiseTest() {}

    public static void main(String[] args) {
        newObject();
        put();
        copy();
        add();
        take();
        times();
        power();
        divide();
        divideAtTheEdges();
        ratio();
        ratioExact();
        whole();
        root();
        rescale();
        round();
        strip();
        move();
        compare();
        signPrecisionScaleDigit();
        type();
        read();
        readRefused();
        writePlain();
        writeWithExponent();
        writeByThrees();
        writeTooLong();
        characterAt();
        wrongRegisters();
        wrongRoundingsAndPrecisions();
        Bench.end();
    }

    /** n nines at a scale, out of so many digits of 1/9; registers 6 and 7 are used up. */
    private static void putNines(TensMill x, int d, int n, int scale) {
        x.put(6, 1, 0);
        x.put(7, 9, 0);
        x.ratio(6, 6, 7, n, 1);
        x.times(d, 6, 7);
        x.move(d, d, x.scale(d) - scale);
        Bench.due("nines", n, x.precision(d));
    }

    /** 10^n, of n + 1 digits. */
    private static void putTen(TensMill x, int d, int n) {
        x.put(d, 10, 0);
        Bench.due("power of 10", true, x.power(d, d, n));
        Bench.due("its digits", n + 1, x.precision(d));
    }

    private static void newObject() {
        TensMill x = new TensMill();
        for (int a = 0; a < 8; a++) {
            Bench.due("a new register", "0@0", Bench.show(x, a));
            Bench.due("its sign", 0, x.sign(a));
        }
        Bench.due("the new laid out text", -1, x.characterAt(0));
        Bench.due("read of the new text", false, x.read(0));
    }

    private static void put() {
        TensMill x = new TensMill();
        long[] numbers = {0, 1, -1, 999999999, 1000000000, -1000000001, Long.MAX_VALUE, Long.MIN_VALUE};
        int[] scales = {0, 1, -1, MAX, MIN};
        for (long u : numbers) {
            for (int s : scales) {
                Bench.due("put", u + "@" + s, Bench.shown(x.put(3, u, s), x, 3));
            }
        }
        Bench.due("its neighbours stay", "0@0", Bench.show(x, 2));
    }

    private static void copy() {
        TensMill x = Bench.mill("-12.50", "0E3");
        Bench.due("copy", "-1250@2", Bench.shown(x.copy(2, 0, false), x, 2));
        Bench.due("copy other", "1250@2", Bench.shown(x.copy(2, 0, true), x, 2));
        Bench.due("copy other of itself", "-1250@2", Bench.shown(x.copy(2, 2, true), x, 2));
        Bench.due("copy other of 0", "0@-3", Bench.shown(x.copy(2, 1, true), x, 2));
        Bench.due("0 has no sign", 0, x.sign(2));
        Bench.due("the source stays", "-1250@2", Bench.show(x, 0));
    }

    private static void add() {
        TensMill x = Bench.mill("1.25", "-0.250", "999999999999999999", "1", "0.00");
        Bench.due("add", "1000@3", Bench.shown(x.add(5, 0, 1), x, 5));
        Bench.due("add with a carry", "1000000000000000000@0", Bench.shown(x.add(5, 2, 3), x, 5));
        Bench.due("add of 0", "12500@4", Bench.shown(x.put(5, 0, 4) && x.add(5, 5, 0), x, 5));
        Bench.due("add to itself", "250@2", Bench.shown(x.copy(5, 0, false) && x.add(5, 5, 5), x, 5));
        Bench.due("opposites", "0@2", Bench.shown(x.copy(5, 0, true) && x.add(5, 5, 0), x, 5));
        x.put(0, 0, MIN);
        x.put(1, -7, MAX);
        Bench.due("0 far below", "-7@" + MAX, Bench.shown(x.add(2, 0, 1), x, 2));
        x.put(1, 0, MAX);
        x.put(0, 7, MIN);
        Bench.due("far too long", "no", Bench.shown(x.add(2, 0, 1), x, 2));
        Bench.due("refused: stays", "-7@" + MAX, Bench.show(x, 2));
        x.put(0, 1, 0);
        x.put(1, 0, 4095);
        Bench.due("4096 digits", true, x.add(2, 0, 1));
        x.put(1, 0, 4096);
        Bench.due("4097 digits", false, x.add(2, 0, 1));
        putNines(x, 0, 4096, 5);
        x.put(1, 1, 5);
        Bench.due("a carry to 4097 digits", false, x.add(2, 0, 1));
        Bench.due("no carry", true, x.put(1, 0, 5) && x.add(2, 0, 1));
    }

    private static void take() {
        TensMill x = Bench.mill("1.25", "-0.250", "1E18", "1", "0.00");
        Bench.due("take", "1500@3", Bench.shown(x.take(5, 0, 1), x, 5));
        Bench.due("take the other way", "-1500@3", Bench.shown(x.take(5, 1, 0), x, 5));
        Bench.due("take with a borrow", "999999999999999999@0", Bench.shown(x.take(5, 2, 3), x, 5));
        Bench.due("take from itself", "0@2", Bench.shown(x.take(0, 0, 0), x, 0));
        Bench.due("take from 0", "250@3", Bench.shown(x.take(5, 4, 1), x, 5));
        putNines(x, 0, 4096, 1);
        putTen(x, 1, 4095);
        Bench.due("10^4095 less a tenth", "1@1", Bench.shown(x.take(2, 1, 0), x, 2));
        Bench.due("the same below 0", "-1@1", Bench.shown(x.take(2, 0, 1), x, 2));
        x.put(0, 1, 1);
        Bench.due("4096 nines", true, x.take(2, 1, 0));
        Bench.due("their digits", 4096, x.precision(2));
        x.put(0, -1, 1);
        Bench.due("4097 digits", false, x.take(2, 1, 0));
        x.put(0, 1, 2);
        Bench.due("4097 nines", false, x.take(2, 1, 0));
    }

    private static void times() {
        TensMill x = Bench.mill("8.5", "-0.06", "0E5");
        Bench.due("times", "-510@3", Bench.shown(x.times(3, 0, 1), x, 3));
        Bench.due("times itself", "36@4", Bench.shown(x.times(1, 1, 1), x, 1));
        Bench.due("times 0", "0@-4", Bench.shown(x.times(3, 0, 2), x, 3));
        x.put(3, 0, MAX);
        Bench.due("0 with no int scale", "no", Bench.shown(x.times(3, 3, 0), x, 3));
        x.put(4, 3, MIN);
        x.put(5, 3, -1);
        Bench.due("the least scale less 1", "no", Bench.shown(x.times(4, 4, 5), x, 4));
        Bench.due("both ends", "0@-1", Bench.shown(x.times(4, 4, 3), x, 4));
        putTen(x, 0, 2048);
        putTen(x, 1, 2047);
        Bench.due("4096 digits", true, x.times(2, 0, 1));
        Bench.due("4097 digits", false, x.times(2, 0, 0));
        x.put(2, 2, 0);
        x.times(0, 0, 2);
        x.put(2, 5, 0);
        x.times(1, 1, 2);
        Bench.due("4097 digits by a carry", false, x.times(2, 0, 1));
        Bench.due("refused: stays", "5@0", Bench.show(x, 2));
    }

    private static void power() {
        TensMill x = Bench.mill("-1.5", "0.0", "-0.1", "2");
        Bench.due("power", "-3375@3", Bench.shown(x.power(4, 0, 3), x, 4));
        Bench.due("even power", "50625@4", Bench.shown(x.power(4, 0, 4), x, 4));
        Bench.due("power 1", "-15@1", Bench.shown(x.power(4, 0, 1), x, 4));
        Bench.due("power 0", "1@0", Bench.shown(x.power(4, 0, 0), x, 4));
        Bench.due("power 0 of 0", "1@0", Bench.shown(x.power(4, 1, 0), x, 4));
        Bench.due("power of 0", "0@9", Bench.shown(x.power(4, 1, 9), x, 4));
        Bench.due("greatest power of 1", "-1@" + MAX, Bench.shown(x.power(4, 2, MAX), x, 4));
        x.put(5, 1, 2);
        Bench.due("its scale no int", "no", Bench.shown(x.power(5, 5, MAX), x, 5));
        x.put(5, 0, -2);
        Bench.due("a least scale", "0@" + MIN, Bench.shown(x.power(4, 5, 1 << 30), x, 4));
        Bench.due("below it", "no", Bench.shown(x.power(4, 5, (1 << 30) + 1), x, 4));
        Bench.due("below 0", "no", Bench.shown(x.power(4, 3, -1), x, 4));
        Bench.due("the greatest power of 2", true, x.power(4, 3, 13606));
        Bench.due("its digits", 4096, x.precision(4));
        Bench.due("one more", false, x.power(4, 3, 13607));
        Bench.due("far more", false, x.power(4, 3, MAX));
        Bench.due("into itself", "1024@0", Bench.shown(x.power(3, 3, 10), x, 3));
        putTen(x, 0, 65);
        Bench.due("10^4095", true, x.power(1, 0, 63));
        Bench.due("10^4160", false, x.power(1, 0, 64));
    }

    private static void divide() {
        TensMill x = Bench.mill("8.56", "-0.06", "1", "8", "3", "0E-7");
        Bench.due("divide", "-14267@2", Bench.shown(x.divide(7, 0, 1, 2, 4), x, 7));
        Bench.due("divide exactly", "125@3", Bench.shown(x.divide(7, 2, 3, 3, 7), x, 7));
        Bench.due("more zeros", "12500000000000@14", Bench.shown(x.divide(7, 2, 3, 14, 7), x, 7));
        Bench.due("divide not exactly", "no", Bench.shown(x.divide(7, 2, 3, 2, 7), x, 7));
        Bench.due("0 by any", "0@" + MIN, Bench.shown(x.divide(7, 5, 4, MIN, 7), x, 7));
        Bench.due("by 0", "no", Bench.shown(x.divide(7, 0, 5, 2, 4), x, 7));
        Bench.due("0 by 0", "no", Bench.shown(x.divide(7, 5, 5, 2, 4), x, 7));
        String[] dues = {"13", "12", "13", "12", "13", "12", "12", "no"};
        String[] minusDues = {"-13", "-12", "-12", "-13", "-13", "-12", "-12", "no"};
        TensMill y = Bench.mill("1", "8", "-8", "2", "-40", "6E-3", "16");
        for (int way = 0; way < 8; way++) {
            String due = dues[way].equals("no") ? "no" : dues[way] + "@2";
            Bench.due("0.125, " + way, due, Bench.shown(y.divide(7, 0, 1, 2, way), y, 7));
            due = minusDues[way].equals("no") ? "no" : minusDues[way] + "@2";
            Bench.due("-0.125, " + way, due, Bench.shown(y.divide(7, 0, 2, 2, way), y, 7));
        }
        Bench.due("half way from odd", "2@0", Bench.shown(x.put(7, 2, 0) && x.divide(7, 4, 7, 0, 6), x, 7));
        Bench.due("0.0625 is below half", "6@2", Bench.shown(y.divide(7, 0, 6, 2, 4), y, 7));
        Bench.due("to tens", "-2@-1", Bench.shown(y.put(7, -31, 0) && y.divide(7, 7, 3, -1, 4), y, 7));
        Bench.due("into its divisor", "-6667@0", Bench.shown(y.divide(5, 4, 5, 0, 4), y, 5));
    }

    private static void divideAtTheEdges() {
        TensMill x = Bench.mill("7", "-3");
        x.put(2, 7, MAX);
        x.put(3, 3, MIN);
        String[] dues = {"1", "0", "1", "0", "0", "0", "0", "no"};
        String[] minusDues = {"-1", "0", "0", "-1", "0", "0", "0", "no"};
        x.copy(4, 2, true);
        for (int way = 0; way < 8; way++) {
            String due = dues[way].equals("no") ? "no" : dues[way] + "@" + MIN;
            Bench.due("next to 0, " + way, due, Bench.shown(x.divide(7, 2, 3, MIN, way), x, 7));
            due = minusDues[way].equals("no") ? "no" : minusDues[way] + "@" + MIN;
            Bench.due("next to -0, " + way, due, Bench.shown(x.divide(7, 4, 3, MIN, way), x, 7));
        }
        Bench.due("far too long", "no", Bench.shown(x.divide(7, 3, 2, MAX, 0), x, 7));
        Bench.due("4096 digits", true, x.divide(7, 0, 1, 4095, 1));
        Bench.due("its digits", 4096, x.precision(7));
        Bench.due("4097 digits", false, x.divide(7, 0, 1, 4096, 1));
        x.put(7, 1, 0);
        Bench.due("4096 threes", true, x.divide(7, 7, 1, 4096, 1));
        Bench.due("their digits", 4096, x.precision(7));
        putNines(x, 2, 4096, 4095);
        x.put(3, 9, 0);
        Bench.due("a ninth of nines", true, x.divide(4, 2, 3, 4095, 7));
        Bench.due("its digits", 4096, x.precision(4));
        x.put(3, 5, 1);
        Bench.due("twice nines", false, x.divide(4, 2, 3, 4095, 1));
        x.put(3, 1, 0);
        Bench.due("nines up", true, x.divide(4, 2, 3, 4094, 0));
        Bench.due("are 10", "10@0", Bench.shown(x.rescale(4, 4, 0, 7), x, 4));
        x.put(5, 999999995, 8);
        Bench.due("9.99999995 up", "10@0", Bench.shown(x.divide(4, 5, 3, 0, 4), x, 4));
    }

    private static void ratio() {
        TensMill x = Bench.mill("1", "3", "2", "0.00", "100", "0.01", "-8", "999.5");
        Bench.due("1/3", "33333@5", Bench.shown(x.ratio(0, 0, 1, 5, 4), x, 0));
        x.put(0, 1, 0);
        Bench.due("2/3", "666666667@9", Bench.shown(x.ratio(2, 2, 1, 9, 6), x, 2));
        Bench.due("1/3 refused", "no", Bench.shown(x.ratio(2, 0, 1, 5, 7), x, 2));
        Bench.due("1/-8 with room", "-125@3", Bench.shown(x.ratio(2, 0, 6, 30, 7), x, 2));
        Bench.due("1/-8 to 2", "-13@2", Bench.shown(x.ratio(2, 0, 6, 2, 4), x, 2));
        Bench.due("1/-8 to 2, greater", "-12@2", Bench.shown(x.ratio(2, 0, 6, 2, 2), x, 2));
        Bench.due("1/-8 to 2, refused", "no", Bench.shown(x.ratio(2, 0, 6, 2, 7), x, 2));
        Bench.due("0 by any", "0@2", Bench.shown(x.ratio(2, 3, 1, 5, 7), x, 2));
        Bench.due("by 0", "no", Bench.shown(x.ratio(2, 1, 3, 5, 4), x, 2));
        Bench.due("0 by 0", "no", Bench.shown(x.ratio(2, 3, 3, 5, 4), x, 2));
        Bench.due("10^4 in 1 digit", "1@-4", Bench.shown(x.ratio(2, 4, 5, 1, 7), x, 2));
        Bench.due("10^4 in 3 digits", "100@-2", Bench.shown(x.ratio(2, 4, 5, 3, 7), x, 2));
        Bench.due("10^4 in 9 digits", "100@-2", Bench.shown(x.ratio(2, 4, 5, 9, 7), x, 2));
        Bench.due("10^p", "100@-1", Bench.shown(x.ratio(2, 7, 0, 3, 4), x, 2));
        Bench.due("10^p of 1 digit", "1@-3", Bench.shown(x.ratio(2, 7, 0, 1, 4), x, 2));
        Bench.due("half way to even", "100@-1", Bench.shown(x.ratio(2, 7, 0, 3, 6), x, 2));
        Bench.due("half way down", "999@0", Bench.shown(x.ratio(2, 7, 0, 3, 5), x, 2));
        x.put(4, 0, MAX);
        x.put(5, 1, -1);
        Bench.due("0 with no int scale", "no", Bench.shown(x.ratio(2, 4, 5, 5, 4), x, 2));
        x.put(4, 1000, MAX);
        x.put(5, 1, -3);
        Bench.due("a scale above, as if it had no end", "no", Bench.shown(x.ratio(2, 4, 5, 9, 4), x, 2));
        Bench.due("in 1 digit it is an int", "1@" + MAX, Bench.shown(x.ratio(2, 4, 5, 1, 4), x, 2));
        x.put(4, 1, MIN);
        x.put(5, 8, 3);
        Bench.due("T below, the scale not", "125@" + MIN, Bench.shown(x.ratio(2, 4, 5, 3, 4), x, 2));
        Bench.due("rounded below", "no", Bench.shown(x.ratio(2, 4, 5, 2, 4), x, 2));
        x.put(4, 1, 0);
        Bench.due("4096 digits of 1/3", true, x.ratio(2, 4, 1, 4096, 4));
        Bench.due("its digits", 4096, x.precision(2));
        Bench.due("a third of nines", 4096, x.scale(2));
    }

    private static void ratioExact() {
        TensMill x = Bench.mill("1", "8", "3", "600", "0.03", "0", "-2.50", "1.0");
        Bench.due("1/8", "125@3", Bench.shown(x.ratio(0, 0, 1, 0, 7), x, 0));
        x.put(0, 1, 0);
        Bench.due("1/3", "no", Bench.shown(x.ratio(0, 0, 2, 0, 4), x, 0));
        Bench.due("600/3", "200@0", Bench.shown(x.ratio(0, 3, 2, 0, 4), x, 0));
        Bench.due("600/0.03", "200@-2", Bench.shown(x.ratio(0, 3, 4, 0, 4), x, 0));
        Bench.due("-2.50/1.0", "-25@1", Bench.shown(x.ratio(0, 6, 7, 0, 4), x, 0));
        Bench.due("0/3", "0@-2", Bench.shown(x.ratio(0, 5, 4, 0, 4), x, 0));
        Bench.due("3/0", "no", Bench.shown(x.ratio(0, 3, 5, 0, 4), x, 0));
        Bench.due("a wrong rounding", "no", Bench.shown(x.ratio(0, 3, 2, 0, 8), x, 0));
        x.put(0, 1, MIN);
        x.put(1, 8, 3);
        Bench.due("T below, the scale not", "125@" + MIN, Bench.shown(x.ratio(2, 0, 1, 0, 4), x, 2));
        x.put(1, 8, 4);
        Bench.due("both below", "no", Bench.shown(x.ratio(2, 0, 1, 0, 4), x, 2));
        x.put(0, 1, MAX - 2);
        x.put(1, 8, 0);
        Bench.due("the scale above", "no", Bench.shown(x.ratio(2, 0, 1, 0, 4), x, 2));
        x.put(0, 1, 0);
        x.put(1, 2, 0);
        x.power(1, 1, 5860);
        Bench.due("2^-5860", true, x.ratio(2, 0, 1, 0, 4));
        Bench.due("its digits", 4096, x.precision(2));
        Bench.due("its scale", 5860, x.scale(2));
        x.put(1, 2, 0);
        x.power(1, 1, 5861);
        Bench.due("2^-5861", false, x.ratio(2, 0, 1, 0, 4));
        x.put(1, 5, 0);
        x.power(1, 1, 5860);
        Bench.due("5^-5860", true, x.ratio(2, 0, 1, 0, 4));
        Bench.due("its scale", 5860, x.scale(2));
    }

    private static String wholes(TensMill x, int q, int r, int a, int b) {
        return x.whole(q, r, a, b) ? Bench.show(x, q) + " " + Bench.show(x, r) : "no";
    }

    private static void whole() {
        TensMill x = Bench.mill("-17", "5", "12.34", "0.5", "0.00", "1E3", "30");
        Bench.due("-17 by 5", "-3@0 -2@0", wholes(x, 2, 3, 0, 1));
        Bench.read(x, 2, "12.34");
        Bench.read(x, 3, "0.5");
        Bench.due("12.34 by 0.5", "240@1 34@2", wholes(x, 7, 0, 2, 3));
        Bench.due("1E3 by 30", "33@0 10@0", wholes(x, 7, 0, 5, 6));
        Bench.due("1E3 by 5", "2@-2 0@-2", wholes(x, 7, 0, 5, 1));
        Bench.due("by itself", "1@0 0@-3", wholes(x, 7, 0, 5, 5));
        Bench.read(x, 5, "1E4");
        Bench.read(x, 6, "0.16");
        Bench.due("no multiple: least scale", "625@-2 0@0", wholes(x, 7, 0, 5, 6));
        Bench.read(x, 6, "32");
        Bench.due("cut", "312@0 16@0", wholes(x, 7, 0, 5, 6));
        Bench.due("32 by 10^4", "0@4 32@0", wholes(x, 7, 0, 6, 5));
        Bench.due("0 by 5", "0@2 0@2", wholes(x, 7, 0, 4, 1));
        Bench.due("by 0", "no", wholes(x, 7, 0, 1, 4));
        Bench.due("the same twice", "no", wholes(x, 7, 7, 5, 6));
        Bench.due("both into their sources", "312@0 16@0", wholes(x, 5, 6, 5, 6));
        Bench.read(x, 5, "1E4");
        Bench.read(x, 6, "-32");
        Bench.due("crosswise", "-312@0 16@0", wholes(x, 6, 5, 5, 6));
        x.put(0, 70, MIN);
        x.put(1, 8, 2);
        Bench.due("far zeros", "875@" + MIN + " 0@" + (MIN + 2), wholes(x, 2, 3, 0, 1));
        x.put(1, 8, 3);
        Bench.due("no int scale", "no", wholes(x, 2, 3, 0, 1));
        x.put(1, 7, 9);
        Bench.due("far zeros, T no int", "no", wholes(x, 2, 3, 0, 1));
        x.put(0, 1, MIN);
        x.put(1, 3, 0);
        Bench.due("far threes", "no", wholes(x, 2, 3, 0, 1));
        x.put(0, 5, MAX);
        x.put(1, 3, -1);
        Bench.due("0, T no int", "no", wholes(x, 2, 3, 0, 1));
        x.put(1, 3, 0);
        Bench.due("0, T an int", "0@" + MAX + " 5@" + MAX, wholes(x, 2, 3, 0, 1));
        x.put(0, 1, -4096);
        Bench.due("4096 threes", true, x.whole(2, 3, 0, 1));
        Bench.due("their digits", 4096, x.precision(2));
        x.put(0, 1, -4097);
        Bench.due("4097 threes", false, x.whole(2, 3, 0, 1));
    }

    private static void root() {
        TensMill x = Bench.mill("2", "1.44", "0.000", "-1", "1E6", "10", "2.25", "99.99");
        Bench.due("root of 2", "14142135623730950488@19", Bench.shown(x.root(0, 0, 20, 6), x, 0));
        x.put(0, 2, 0);
        Bench.due("refused", "no", Bench.shown(x.root(0, 0, 20, 7), x, 0));
        Bench.due("up", "15@1", Bench.shown(x.root(0, 0, 2, 0), x, 0));
        Bench.due("of 1.44", "12@1", Bench.shown(x.root(0, 1, 5, 7), x, 0));
        Bench.due("of 0", "0@1", Bench.shown(x.root(0, 2, 5, 7), x, 0));
        Bench.due("of 0, no precision", "no", Bench.shown(x.root(0, 2, 0, 4), x, 0));
        Bench.due("of 0, no such rounding", "no", Bench.shown(x.root(0, 2, 5, 8), x, 0));
        Bench.due("of -1", "no", Bench.shown(x.root(0, 3, 5, 4), x, 0));
        Bench.due("of 4, no precision", "no", Bench.shown(x.root(0, 1, 0, 4), x, 0));
        Bench.due("of 1E6", "1@-3", Bench.shown(x.root(0, 4, 5, 7), x, 0));
        Bench.due("of 10", "3162@3", Bench.shown(x.root(0, 5, 4, 4), x, 0));
        Bench.due("of 2.25 to 1, even", "2@0", Bench.shown(x.root(0, 6, 1, 6), x, 0));
        Bench.due("of 2.25 to 1, down", "1@0", Bench.shown(x.root(0, 6, 1, 5), x, 0));
        Bench.due("of 2.25 to 1, refused", "no", Bench.shown(x.root(0, 6, 1, 7), x, 0));
        Bench.due("of 99.99", "10@0", Bench.shown(x.root(0, 7, 2, 4), x, 0));
        Bench.due("of 99.99 to 4", "1000@2", Bench.shown(x.root(0, 7, 4, 0), x, 0));
        x.put(0, 40000, 3);
        Bench.due("T is 1", "no", Bench.shown(x.root(1, 0, 5, 7), x, 1));
        x.put(0, 4000, 3);
        Bench.due("zeros for T", "20@1", Bench.shown(x.root(1, 0, 5, 7), x, 1));
        Bench.due("fewer for the precision", "2@0", Bench.shown(x.root(1, 0, 1, 7), x, 1));
        x.put(0, 40, -3);
        Bench.due("T cut towards 0", "20@-1", Bench.shown(x.root(1, 0, 5, 7), x, 1));
        x.put(0, 10, MAX);
        Bench.due("the greatest scale", "1@" + (MAX - 1) / 2, Bench.shown(x.root(1, 0, 5, 7), x, 1));
        x.put(0, 4, MIN);
        Bench.due("the least scale", "2@" + MIN / 2, Bench.shown(x.root(1, 0, 5, 7), x, 1));
        x.put(0, 2, 0);
        Bench.due("4096 digits", true, x.root(0, 0, 4096, 1));
        Bench.due("its digits", 4096, x.precision(0));
        Bench.due("square below 2", true, x.round(0, 0, 2000, 1) && x.times(0, 0, 0) && x.put(1, 2, 0));
        Bench.due("square below 2", -1, x.compare(0, 1));
    }

    private static void rescale() {
        TensMill x = Bench.mill("2.5", "-2.5", "0E3", "1.23", "3.5", "2.51", "-2.49");
        String[] dues = {"3", "2", "3", "2", "3", "2", "2", "no"};
        String[] minusDues = {"-3", "-2", "-2", "-3", "-3", "-2", "-2", "no"};
        String[] oddDues = {"4", "3", "4", "3", "4", "3", "4", "no"};
        String[] aboveDues = {"3", "2", "3", "2", "3", "3", "3", "no"};
        String[] belowDues = {"-3", "-2", "-2", "-3", "-2", "-2", "-2", "no"};
        String[][] all = {dues, minusDues, oddDues, aboveDues, belowDues};
        int[] sources = {0, 1, 4, 5, 6};
        for (int i = 0; i < sources.length; i++) {
            for (int way = 0; way < 8; way++) {
                String due = all[i][way].equals("no") ? "no" : all[i][way] + "@0";
                String what = "rescale of " + Bench.show(x, sources[i]) + ", " + way;
                Bench.due(what, due, Bench.shown(x.rescale(7, sources[i], 0, way), x, 7));
            }
        }
        Bench.due("more zeros", "123000@5", Bench.shown(x.rescale(7, 3, 5, 7), x, 7));
        Bench.due("0", "0@" + MAX, Bench.shown(x.rescale(7, 2, MAX, 7), x, 7));
        Bench.due("to thousands, up", "1@-3", Bench.shown(x.rescale(7, 3, -3, 0), x, 7));
        Bench.due("to thousands, half", "0@-3", Bench.shown(x.rescale(7, 3, -3, 4), x, 7));
        Bench.due("far away, up", "-1@" + MIN, Bench.shown(x.rescale(7, 1, MIN, 3), x, 7));
        Bench.due("far away, refused", "no", Bench.shown(x.rescale(7, 1, MIN, 7), x, 7));
        Bench.due("far too long", "no", Bench.shown(x.rescale(7, 1, MAX, 0), x, 7));
        Bench.due("into itself", "1@0", Bench.shown(x.rescale(3, 3, 0, 4), x, 3));
        Bench.due("6 to tens, half", "1@-1", Bench.shown(x.put(3, 6, 0) && x.rescale(3, 3, -1, 4), x, 3));
        Bench.due("4096 digits", true, x.put(3, 1, 0) && x.rescale(7, 3, 4095, 7));
        Bench.due("4097 digits", false, x.rescale(7, 3, 4096, 7));
        putNines(x, 0, 4096, 0);
        Bench.due("all nines cut", "1@-4096", Bench.shown(x.rescale(1, 0, -4096, 4), x, 1));
        Bench.due("one more cut", "0@-4097", Bench.shown(x.rescale(1, 0, -4097, 4), x, 1));
        Bench.due("two more cut", "0@-4098", Bench.shown(x.rescale(1, 0, -4098, 4), x, 1));
        Bench.due("far more cut", "0@-9999", Bench.shown(x.rescale(1, 0, -9999, 4), x, 1));
    }

    private static void round() {
        TensMill x = Bench.mill("999999", "12.500", "-0.0456", "0E9", "1200");
        Bench.due("10^p", "100@-4", Bench.shown(x.round(7, 0, 3, 4), x, 7));
        Bench.due("10^p of 1", "1@-6", Bench.shown(x.round(7, 0, 1, 0), x, 7));
        Bench.due("down", "999@-3", Bench.shown(x.round(7, 0, 3, 1), x, 7));
        Bench.due("enough digits", "12500@3", Bench.shown(x.round(7, 1, 5, 7), x, 7));
        Bench.due("more than enough", "12500@3", Bench.shown(x.round(7, 1, 9, 7), x, 7));
        Bench.due("fewer digits do", "1250@2", Bench.shown(x.round(7, 1, 4, 7), x, 7));
        Bench.due("fewer yet", "125@1", Bench.shown(x.round(7, 1, 3, 7), x, 7));
        Bench.due("too few", "no", Bench.shown(x.round(7, 1, 2, 7), x, 7));
        Bench.due("too few, even", "12@0", Bench.shown(x.round(7, 1, 2, 6), x, 7));
        Bench.due("precision 0", "12500@3", Bench.shown(x.round(7, 1, 0, 7), x, 7));
        Bench.due("below 0", "-46@3", Bench.shown(x.round(7, 2, 2, 4), x, 7));
        Bench.due("below 0, greater", "-45@3", Bench.shown(x.round(7, 2, 2, 2), x, 7));
        Bench.due("0", "0@-9", Bench.shown(x.round(7, 3, 1, 7), x, 7));
        Bench.due("tens", "12@-2", Bench.shown(x.round(4, 4, 2, 7), x, 4));
        x.put(0, 15, MIN);
        Bench.due("below the least scale", "no", Bench.shown(x.round(7, 0, 1, 4), x, 7));
        x.put(0, 95, MIN + 1);
        Bench.due("by the carry alone", "no", Bench.shown(x.round(7, 0, 1, 4), x, 7));
        Bench.due("without it", "9@" + MIN, Bench.shown(x.round(7, 0, 1, 5), x, 7));
        putNines(x, 0, 4096, 0);
        Bench.due("4096 digits", true, x.round(7, 0, 4096, 7));
        Bench.due("4095 digits", true, x.round(7, 0, 4095, 0));
        Bench.due("its scale", -2, x.scale(7));
        Bench.due("its digits", 4095, x.precision(7));
    }

    private static void strip() {
        TensMill x = Bench.mill("-1200.00", "0E7", "5", "1000000000000000000");
        Bench.due("strip", "-12@-2", Bench.shown(x.strip(0, 0), x, 0));
        Bench.due("nothing to strip", "5@0", Bench.shown(x.strip(2, 2), x, 2));
        Bench.due("0", "0@0", Bench.shown(x.strip(1, 1), x, 1));
        Bench.due("whole limbs", "1@-18", Bench.shown(x.strip(3, 3), x, 3));
        x.put(0, 10, MIN);
        Bench.due("below the least scale", "no", Bench.shown(x.strip(1, 0), x, 1));
        x.put(0, 10, MIN + 1);
        Bench.due("at the least scale", "1@" + MIN, Bench.shown(x.strip(1, 0), x, 1));
        putTen(x, 0, 4095);
        Bench.due("many zeros", "1@-4095", Bench.shown(x.strip(1, 0), x, 1));
    }

    private static void move() {
        TensMill x = Bench.mill("-1.5", "0");
        Bench.due("move", "-15@-2", Bench.shown(x.move(2, 0, 3), x, 2));
        Bench.due("back", "-15@1", Bench.shown(x.move(2, 2, -3), x, 2));
        Bench.due("by nothing", "-15@1", Bench.shown(x.move(2, 2, 0), x, 2));
        Bench.due("0", "0@-5", Bench.shown(x.move(1, 1, 5), x, 1));
        Bench.due("too far down", "no", Bench.shown(x.move(1, 1, MAX), x, 1));
        Bench.due("the least", "0@" + MIN, Bench.shown(x.move(1, 1, MAX - 4), x, 1));
        Bench.due("up from there", "0@0", Bench.shown(x.move(1, 1, MIN), x, 1));
        Bench.due("too far up", "no", Bench.shown(x.move(1, 1, MIN), x, 1));
        Bench.due("0, the greatest", "0@" + MAX, Bench.shown(x.move(1, 1, -MAX), x, 1));
    }

    private static void compare() {
        String[] rising = {"-1E9", "-100", "-2.51", "-2.5", "0", "1E-9", "2.5", "2.51"};
        TensMill x = Bench.mill(rising);
        for (int a = 0; a < 8; a++) {
            for (int b = 0; b < 8; b++) {
                Bench.due("compare", Integer.compare(a, b), x.compare(a, b));
            }
        }
        TensMill y = Bench.mill("2.50000000000", "25E-1", "0E9", "0E-9", "-1E1", "-10", "0.99", "1");
        Bench.due("equal", 0, y.compare(0, 1));
        Bench.due("equal 0", 0, y.compare(2, 3));
        Bench.due("equal below 0", 0, y.compare(4, 5));
        Bench.due("fewer digits above", -1, y.compare(6, 7));
        y.put(0, 1, MIN);
        y.put(1, 999, MAX);
        Bench.due("far", 1, y.compare(0, 1));
        Bench.due("far", -1, y.compare(1, 0));
        y.put(1, -999, MIN);
        Bench.due("far below 0", -1, y.compare(1, 0));
        for (int no : NO_REGISTERS) {
            Bench.due("no register", -2, y.compare(no, 0));
            Bench.due("no register", -2, y.compare(0, no));
        }
    }

    private static void signPrecisionScaleDigit() {
        TensMill x = Bench.mill("-120.30", "0.000", "1234567890123456789");
        Bench.due("sign", -1, x.sign(0));
        Bench.due("sign of 0", 0, x.sign(1));
        Bench.due("sign", 1, x.sign(2));
        Bench.due("precision", 5, x.precision(0));
        Bench.due("precision of 0", 1, x.precision(1));
        Bench.due("precision", 19, x.precision(2));
        Bench.due("scale", 2, x.scale(0));
        Bench.due("scale of 0", 3, x.scale(1));
        Bench.due("digit 0", 0, x.digit(0, 0));
        Bench.due("digit 1", 3, x.digit(0, 1));
        Bench.due("digit 4", 1, x.digit(0, 4));
        Bench.due("digit 5", -1, x.digit(0, 5));
        Bench.due("digit -1", -1, x.digit(0, -1));
        Bench.due("digit 0 of 0", 0, x.digit(1, 0));
        Bench.due("digit 1 of 0", -1, x.digit(1, 1));
        Bench.due("digit 9", 0, x.digit(2, 9));
        Bench.due("digit 18", 1, x.digit(2, 18));
        Bench.due("digit 19", -1, x.digit(2, 19));
        Bench.due("digit far off", -1, x.digit(2, MAX));
        Bench.due("digit far off", -1, x.digit(2, MIN));
        for (int no : NO_REGISTERS) {
            Bench.due("sign of none", -2, x.sign(no));
            Bench.due("precision of none", -1, x.precision(no));
            Bench.due("scale of none", 0, x.scale(no));
            Bench.due("digit of none", -1, x.digit(no, 0));
        }
    }

    private static void type() {
        TensMill x = new TensMill();
        Bench.due("type", true, x.type(0x3100320033003400L));
        Bench.due("type nothing", true, x.type(0));
        Bench.due("type eight", true, x.type(0x3536373839303132L));
        Bench.due("read", "123456789012@0", Bench.shown(x.read(0), x, 0));
        Bench.due("127", false, x.type(0x317FL));
        Bench.due("128", false, x.type(0x80L));
        Bench.due("255 on top", false, x.type(-1L << 56 | 0x31));
        Bench.due("nothing of it stands", false, x.read(0));
        Bench.due("126", true, x.type(0x7EL));
        Bench.due("126 is no number", false, x.read(0));
        for (int i = 0; i < 749; i++) {
            x.type(0x3030303030303030L);
        }
        Bench.due("5999", true, x.type(0x30303030303031L));
        Bench.due("6001", false, x.type(0x3535L));
        Bench.due("6000", true, x.type(0x37L));
        Bench.due("none more", false, x.type(0x37L));
        Bench.due("but nothing", true, x.type(0L));
        Bench.due("zeros in front", "17@0", Bench.shown(x.read(0), x, 0));
    }

    private static void read() {
        String[][] dues = {
            {"0", "0@0"}, {"-0", "0@0"}, {"+12", "12@0"}, {"-12.50", "-1250@2"}, {".5", "5@1"}, {"5.", "5@0"},
            {"-.05E1", "-5@1"}, {"1e5", "1@-5"}, {"1E+5", "1@-5"}, {"1E-5", "1@5"}, {"00012", "12@0"},
            {"0.00", "0@2"}, {"0E10", "0@-10"}, {"12.E2", "12@-2"}, {"1E0000000000000000000000012", "1@-12"},
            {"1E2147483648", "1@" + MIN}, {"1E-2147483647", "1@" + MAX}, {"1.5E2147483649", "15@" + MIN},
            {".1E-2147483646", "1@" + MAX}, {"123456789012345678901234567890", "123456789012345678901234567890@0"},
            {"1E-0", "1@0"}, {"0.000000000000000000001", "1@21"}
        };
        for (String[] due : dues) {
            TensMill x = Bench.mill("7.7");
            Bench.due("read " + due[0], due[1], Bench.shown(Bench.read(x, 0, due[0]), x, 0));
            Bench.due("the text is empty", false, x.read(0));
            Bench.due("and that changes nothing", due[1], Bench.show(x, 0));
        }
    }

    private static void readRefused() {
        String[] wrong = {
            "", "+", "-", ".", "+.", "e5", "E", ".e5", "1e", "1e+", "1e-", "1e5.", "1.2.3", "1..", "..1", "--1", "+-1",
            " 1", "1 ", "1 2", "1e 5", "1e5e5", "1e5+", "1e+-5", "a", "1a", "0x1", "1,5", "/", ":", "1:", "1/", "1E/",
            "1E:", "1-", "1+1", "\u00011", "1E2147483649", "1E-2147483648", ".1E-2147483647",
            "1E99999999999999999999999999", "1E-99999999999999999999999999", "0E2147483649",
            "1E18446744073709551616", "1E4294967296"
        };
        for (String text : wrong) {
            TensMill x = Bench.mill("7.7");
            Bench.due("read '" + text + "'", "no", Bench.shown(Bench.read(x, 0, text), x, 0));
            Bench.due("refused: stays", "77@1", Bench.show(x, 0));
            Bench.due("and the text is empty", "5@0", Bench.shown(Bench.read(x, 0, "5"), x, 0));
        }
        for (int no : NO_REGISTERS) {
            TensMill x = new TensMill();
            Bench.due("read into none", false, Bench.read(x, no, "12"));
            Bench.due("its text is empty", "5@0", Bench.shown(Bench.read(x, 0, "5"), x, 0));
        }
        TensMill x = new TensMill();
        Bench.due("4096 digits", true, Bench.read(x, 0, "00" + "7".repeat(4096)));
        Bench.due("its digits", 4096, x.precision(0));
        Bench.due("4097 digits", false, Bench.read(x, 1, "7".repeat(4097)));
        Bench.due("4097 zeros behind", true, Bench.read(x, 1, "." + "0".repeat(4097) + "7"));
        Bench.due("their scale", "7@4098", Bench.show(x, 1));
    }

    private static void writePlain() {
        String[][] dues = {
            {"0", "0"}, {"-5", "-5"}, {"12.50", "12.50"}, {"-0.05", "-0.05"}, {"1E-9", "0.000000001"}, {"-12E3", "-12000"},
            {"0E3", "0"}, {"0E-3", "0.000"}, {"0.5", "0.5"}, {"1.5E-1", "0.15"}, {"15E-2", "0.15"}, {"1234567890123", "1234567890123"}
        };
        for (String[] due : dues) {
            Bench.due("plain " + due[0], due[1], Bench.written(Bench.mill(due[0]), 0, 2));
        }
    }

    private static void writeWithExponent() {
        String[][] dues = {
            {"0", "0"}, {"-123", "-123"}, {"12.50", "12.50"}, {"1E-6", "0.000001"}, {"1E-7", "1E-7"}, {"-12E-8", "-1.2E-7"},
            {"12E-7", "0.0000012"}, {"123E4", "1.23E+6"}, {"1E1", "1E+1"}, {"0E1", "0E+1"}, {"0E-6", "0.000000"}, {"0E-7", "0E-7"},
            {"-100E1", "-1.00E+3"}, {"1E2147483648", "1E+2147483648"}, {"1E-2147483647", "1E-2147483647"},
            {"12E2147483648", "1.2E+2147483649"}, {"0E2147483648", "0E+2147483648"}, {"1E10", "1E+10"}, {"1E100", "1E+100"}
        };
        for (String[] due : dues) {
            Bench.due("with exponent " + due[0], due[1], Bench.written(Bench.mill(due[0]), 0, 0));
        }
    }

    private static void writeByThrees() {
        String[][] dues = {
            {"0", "0"}, {"12.50", "12.50"}, {"123E4", "1.23E+6"}, {"123E5", "12.3E+6"}, {"123E6", "123E+6"}, {"1E1", "10"}, {"1E2", "100"},
            {"1E3", "1E+3"}, {"1E4", "10E+3"}, {"12E1", "120"}, {"12E4", "120E+3"}, {"-1E-7", "-100E-9"}, {"1E-8", "10E-9"}, {"1E-9", "1E-9"},
            {"1E-10", "100E-12"}, {"1234E-10", "123.4E-9"}, {"1234567E-14", "12.34567E-9"}, {"0E1", "0.00E+3"}, {"0E2", "0.0E+3"}, {"0E3", "0E+3"},
            {"0E-7", "0.0E-6"}, {"0E-8", "0.00E-6"}, {"0E-9", "0E-9"}, {"0E-6", "0.000000"}, {"0E-5", "0.00000"},
            {"1E2147483648", "100E+2147483646"}, {"0E2147483648", "0.0E+2147483649"}, {"0E-2147483647", "0.0E-2147483646"},
            {"1E-2147483647", "100E-2147483649"}, {"15E1", "150"}, {"123E1", "1.23E+3"}
        };
        for (String[] due : dues) {
            Bench.due("by threes " + due[0], due[1], Bench.written(Bench.mill(due[0]), 0, 1));
        }
    }

    private static void writeTooLong() {
        TensMill x = Bench.mill("-1E5998", "-1E5999", "1E-5998", "1E-5999", "-1E-5997", "-1E-5998");
        Bench.due("6000", 6000, x.write(0, 2));
        Bench.due("6001", -1, x.write(1, 2));
        Bench.due("nothing new", 45, x.characterAt(0));
        Bench.due("nothing new", 48, x.characterAt(5999));
        Bench.due("6000", 6000, x.write(2, 2));
        Bench.due("6001", -1, x.write(3, 2));
        Bench.due("6000", 6000, x.write(4, 2));
        Bench.due("6001", -1, x.write(5, 2));
        Bench.due("nothing new", "-0.0", Bench.laid(x).substring(0, 4));
        x.put(0, 1, MAX);
        x.put(1, 1, MIN);
        x.put(2, 0, MAX);
        x.put(3, 0, MIN);
        Bench.due("far", -1, x.write(0, 2));
        Bench.due("far", -1, x.write(1, 2));
        Bench.due("far", -1, x.write(2, 2));
        Bench.due("0 alone", 1, x.write(3, 2));
        putNines(x, 0, 4096, -1);
        Bench.due("4096 nines", 4096 + 1 + 6, x.write(0, 0));
        Bench.due("a point", 46, x.characterAt(1));
        Bench.due("by threes", 4096 + 1 + 6, x.write(0, 1));
        Bench.due("a point", 46, x.characterAt(2));
        Bench.due("plain", 4097, x.write(0, 2));
    }

    private static void characterAt() {
        TensMill x = Bench.mill("-1.5");
        Bench.due("before a write", -1, x.characterAt(0));
        Bench.due("write", 4, x.write(0, 0));
        Bench.due("first", 45, x.characterAt(0));
        Bench.due("last", 53, x.characterAt(3));
        Bench.due("behind", -1, x.characterAt(4));
        Bench.due("before", -1, x.characterAt(-1));
        Bench.due("far", -1, x.characterAt(MAX));
        Bench.due("far", -1, x.characterAt(MIN));
        Bench.due("no such layout", -1, x.write(0, 3));
        Bench.due("no such layout", -1, x.write(0, -1));
        for (int no : NO_REGISTERS) {
            Bench.due("no register", -1, x.write(no, 0));
        }
        x.put(0, 7, 0);
        x.type(0x38L);
        Bench.due("nothing is new", "-1.5", Bench.laid(x));
        Bench.due("a shorter one", 1, x.write(0, 0));
        Bench.due("a shorter one", "7", Bench.laid(x));
        Bench.due("the typed text stands", "8@0", Bench.shown(x.read(0), x, 0));
    }

    private static void wrongRegisters() {
        TensMill x = Bench.mill("4", "2", "3", "4", "5", "6", "7", "8");
        for (int no : NO_REGISTERS) {
            boolean[] done = {
                x.put(no, 1, 1), x.copy(no, 0, false), x.copy(0, no, false), x.add(no, 1, 2), x.add(0, no, 2),
                x.add(0, 1, no), x.take(no, 1, 2), x.take(0, no, 2), x.take(0, 1, no), x.times(no, 1, 2),
                x.times(0, no, 2), x.times(0, 1, no), x.power(no, 1, 2), x.power(0, no, 2), x.power(0, no, 0),
                x.divide(no, 1, 2, 1, 1), x.divide(0, no, 2, 1, 1), x.divide(0, 1, no, 1, 1),
                x.ratio(no, 1, 2, 1, 1), x.ratio(0, no, 2, 1, 1), x.ratio(0, 1, no, 1, 1), x.whole(no, 1, 2, 3),
                x.whole(0, no, 2, 3), x.whole(0, 1, no, 3), x.whole(0, 1, 2, no), x.root(no, 1, 5, 1),
                x.root(0, no, 5, 1), x.rescale(no, 1, 1, 1), x.rescale(0, no, 1, 1), x.round(no, 1, 1, 1),
                x.round(0, no, 1, 1), x.strip(no, 1), x.strip(0, no), x.move(no, 1, 1), x.move(0, no, 1)
            };
            for (int i = 0; i < done.length; i++) {
                Bench.due("wrong register, call " + i, false, done[i]);
            }
        }
        Bench.due("nothing changed", "4@0", Bench.show(x, 0));
        Bench.due("nothing changed", "2@0", Bench.show(x, 1));
    }

    private static void wrongRoundingsAndPrecisions() {
        TensMill x = Bench.mill("4", "2", "0", "7");
        for (int no : NO_REGISTERS) {
            boolean[] done = {
                x.divide(0, 1, 1, 1, no), x.divide(0, 2, 1, 1, no), x.ratio(0, 1, 1, 5, no), x.ratio(0, 2, 1, 5, no),
                x.ratio(0, 1, 1, 0, no), x.root(0, 0, 5, no), x.root(0, 2, 5, no), x.rescale(0, 1, 0, no),
                x.rescale(0, 2, 0, no), x.round(0, 1, 5, no), x.round(0, 1, 0, no)
            };
            for (int i = 0; i < done.length; i++) {
                Bench.due("wrong rounding, call " + i, false, done[i]);
            }
        }
        int[] precisions = {-1, 4097, MAX, MIN};
        for (int no : precisions) {
            boolean[] done = {
                x.ratio(0, 1, 1, no, 4), x.ratio(0, 2, 1, no, 4), x.root(0, 0, no, 4), x.root(0, 2, no, 4),
                x.round(0, 1, no, 4), x.round(0, 2, no, 4)
            };
            for (int i = 0; i < done.length; i++) {
                Bench.due("wrong precision, call " + i, false, done[i]);
            }
        }
        Bench.due("nothing changed", "4@0", Bench.show(x, 0));
        Bench.due("precision 4096", true, x.ratio(0, 1, 3, 4096, 4) && x.round(0, 0, 4096, 7) && x.root(0, 1, 4096, 4));
    }
}
