import java.math.BigInteger;
import java.util.Random;

/** Long runs of calls by chance, each answered by the class and by the model alike. */
public final class ModelTest {
    private static final int RUNS = 4000;
    private static final int CALLS = 120;
    private static final int[] EDGES = {
        0, 1, 2, 3, 5, 6, 7, 8, 9, 10, 17, 18, 19, 26, 27, 28, 100, 4094, 4095, 4096, 4097, 6000, 8191, 8192, 12288,
        1073741823, 1073741824, Integer.MAX_VALUE - 4096, Integer.MAX_VALUE - 1, Integer.MAX_VALUE
    };
    private static final String[] PIECES = {
        "0", "1", "5", "9", "00", "123", "99999999", "50000000", ".", ".", "-", "+", "e", "E", "E-", "e+", "E1", "E-21474",
        "83648", "83647", " ", "a"
    };

    private final Random chance;
    private final TensMill mill = new TensMill();
    private final Model model = new Model();
    private int big;
    private String call = "";

    private ModelTest(long seed) {
        chance = new Random(seed);
    }

    public static void main(String[] args) {
        int runs = args.length > 0 ? Integer.parseInt(args[0]) : RUNS;
        long first = args.length > 1 ? Long.parseLong(args[1]) : 0;
        int wrong = 0;
        for (long run = first; run < first + runs && wrong < 5; run++) {
            wrong += new ModelTest(run).agrees(run) ? 0 : 1;
        }
        System.out.println(runs + " runs by chance, " + wrong + " with a wrong answer");
        if (wrong != 0) {
            System.exit(1);
        }
    }

    private boolean agrees(long run) {
        big = chance.nextInt(10) == 0 ? 4096 : chance.nextInt(8) == 0 ? 300 : 40;
        StringBuilder past = new StringBuilder();
        for (int i = 0; i < CALLS; i++) {
            String wrong;
            try {
                wrong = step();
            } catch (RuntimeException e) {
                wrong = e + " " + e.getStackTrace()[0];
            }
            past.append(call).append('\n');
            if (wrong != null) {
                System.out.println("run " + run + ", call " + i + ": " + call + ": " + wrong);
                if (big < 300) {
                    System.out.println(past);
                }
                return false;
            }
        }
        return true;
    }

    private int register() {
        int r = chance.nextInt(300);
        return r == 0 ? -1 : r == 1 ? 8 : r == 2 ? Integer.MIN_VALUE : chance.nextInt(8);
    }

    private int number() {
        int kind = chance.nextInt(12);
        if (kind < 7) {
            return chance.nextInt(13) - 4;
        }
        if (kind < 10) {
            return chance.nextInt(2 * big) - big;
        }
        int edge = EDGES[chance.nextInt(EDGES.length)] + chance.nextInt(3) - 1;
        return chance.nextBoolean() ? edge : -edge;
    }

    private int rounding() {
        return chance.nextInt(100) == 0 ? number() : chance.nextInt(8);
    }

    private int digitsWanted() {
        int kind = chance.nextInt(20);
        return kind == 0 ? number() : kind < 14 ? chance.nextInt(25) : chance.nextInt(big + 1);
    }

    private long size() {
        switch (chance.nextInt(8)) {
            case 0: return chance.nextLong();
            case 1: return chance.nextBoolean() ? Long.MIN_VALUE : Long.MAX_VALUE;
            case 2: return (long) Math.pow(10, chance.nextInt(18)) * (chance.nextInt(19) - 9);
            case 3: return (long) Math.pow(10, chance.nextInt(18)) - chance.nextInt(3) + 1;
            case 4: return 1L << chance.nextInt(63);
            case 5: return (long) Math.pow(5, chance.nextInt(20));
            case 6: return square(chance.nextInt(100000));
            default: return chance.nextInt(2001) - 1000;
        }
    }

    private static long square(long x) {
        return x * x;
    }

    private String step() {
        int d = register();
        int a = register();
        int b = register();
        int n = number();
        int way = rounding();
        int p = digitsWanted();
        switch (chance.nextInt(22)) {
            case 0: return put(d, size(), n);
            case 1: return put(d, size(), chance.nextInt(9) - 3);
            case 2: return copy(d, a, chance.nextBoolean());
            case 3:
                call = "add " + d + " " + a + " " + b;
                return same(mill.add(d, a, b), model.add(d, a, b, false));
            case 4:
                call = "take " + d + " " + a + " " + b;
                return same(mill.take(d, a, b), model.add(d, a, b, true));
            case 5:
                call = "times " + d + " " + a + " " + b;
                return same(mill.times(d, a, b), model.times(d, a, b));
            case 6:
                call = "power " + d + " " + a + " " + n;
                return same(mill.power(d, a, n), model.power(d, a, n));
            case 7:
            case 8:
                call = "divide " + d + " " + a + " " + b + " " + n + " " + way;
                return same(mill.divide(d, a, b, n, way), model.divide(d, a, b, n, way));
            case 9:
            case 10:
                call = "ratio " + d + " " + a + " " + b + " " + p + " " + way;
                return same(mill.ratio(d, a, b, p, way), model.ratio(d, a, b, p, way));
            case 11:
                call = "ratio " + d + " " + a + " " + b + " 0 " + way;
                return same(mill.ratio(d, a, b, 0, way), model.ratio(d, a, b, 0, way));
            case 12:
            case 13:
                int q = register();
                call = "whole " + q + " " + d + " " + a + " " + b;
                return same(mill.whole(q, d, a, b), model.whole(q, d, a, b));
            case 14:
                call = "root " + d + " " + a + " " + p + " " + way;
                return same(mill.root(d, a, p, way), model.root(d, a, p, way));
            case 15:
                call = "rescale " + d + " " + a + " " + n + " " + way;
                return same(mill.rescale(d, a, n, way), model.rescale(d, a, n, way));
            case 16:
                call = "round " + d + " " + a + " " + p + " " + way;
                return same(mill.round(d, a, p, way), model.round(d, a, p, way));
            case 17:
                call = "strip " + d + " " + a;
                return same(mill.strip(d, a), model.strip(d, a));
            case 18:
                call = "move " + d + " " + a + " " + n;
                return same(mill.move(d, a, n), model.move(d, a, n));
            case 19: return readText(d);
            case 20: return written(a, chance.nextInt(40) == 0 ? n : chance.nextInt(3));
            default:
                call = "digit " + a + " " + n;
                return same(mill.digit(a, n), model.digit(a, n));
        }
    }

    private String put(int d, long u, int n) {
        call = "put " + d + " " + u + " " + n;
        return same(mill.put(d, u, n), model.put(d, u, n));
    }

    private String copy(int d, int a, boolean other) {
        call = "copy " + d + " " + a + " " + other;
        return same(mill.copy(d, a, other), model.copy(d, a, other));
    }

    private String readText(int d) {
        StringBuilder text = new StringBuilder();
        int pieces = chance.nextInt(7);
        for (int i = 0; i < pieces; i++) {
            text.append(PIECES[chance.nextInt(chance.nextInt(4) == 0 ? PIECES.length : 10)]);
        }
        call = "read " + d + " of " + text;
        for (int i = 0; i < text.length(); i += 5) {
            long eight = 0;
            for (int k = i; k < Math.min(i + 5, text.length()); k++) {
                eight = (eight << 8 * (1 + chance.nextInt(2))) + text.charAt(k);
            }
            String wrong = same(mill.type(eight), model.type(eight));
            if (wrong != null) {
                return wrong;
            }
        }
        long any = chance.nextInt(20) == 0 ? chance.nextLong() : 0;
        String wrong = same(mill.type(any), model.type(any));
        return wrong != null ? wrong : same(mill.read(d), model.read(d));
    }

    private String written(int a, int how) {
        call = "write " + a + " " + how;
        String wrong = same(mill.write(a, how), model.write(a, how));
        for (int i = -1; i <= model.laid.length() && wrong == null; i++) {
            int due = i >= 0 && i < model.laid.length() ? model.laid.charAt(i) : -1;
            wrong = same(mill.characterAt(i), due);
        }
        return wrong;
    }

    private String same(boolean got, boolean due) {
        return got == due ? sameState() : "answered " + got;
    }

    private static String same(int got, int due) {
        return got == due ? null : "answered " + got + ", due is " + due;
    }

    private String sameState() {
        for (int r = 0; r < 8; r++) {
            BigInteger due = model.u[r];
            int digits = Model.digits(due);
            if (mill.scale(r) != model.scale[r] || mill.sign(r) != due.signum() || mill.precision(r) != digits) {
                return "register " + r + " has scale " + mill.scale(r) + ", sign " + mill.sign(r) + ", "
                        + mill.precision(r) + " digits; due are " + model.scale[r] + ", " + due.signum() + ", " + digits;
            }
            String all = due.abs().toString();
            for (int k = 0; k < digits; k++) {
                if (mill.digit(r, k) != all.charAt(digits - 1 - k) - '0') {
                    return "register " + r + " has a wrong digit " + k + "; due is " + all;
                }
            }
        }
        int a = chance.nextInt(8);
        int b = chance.nextInt(8);
        if (mill.compare(a, b) != model.compare(a, b)) {
            return "compare " + a + " " + b + " answered " + mill.compare(a, b);
        }
        return null;
    }
}
