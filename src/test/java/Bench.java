/** What the tests share: a mill filled and shown in words, and a count of what is wrong. */
final class Bench {
    private static int wrong = 0;
    private static int seen = 0;

    private Bench() {}

    static void due(String what, Object want, Object got) {
        seen++;
        if (!want.equals(got)) {
            wrong++;
            System.out.println(what + ": answered " + got + ", due is " + want);
        }
    }

    static void end() {
        System.out.println(seen + " answers, " + wrong + " not as due");
        if (wrong != 0 || seen == 0) {
            System.exit(1);
        }
    }

    /** A new mill whose registers from 0 on hold what the numerals say. */
    static TensMill mill(String... numerals) {
        TensMill x = new TensMill();
        for (int i = 0; i < numerals.length; i++) {
            if (!read(x, i, numerals[i])) {
                due("read of " + numerals[i], true, false);
            }
        }
        return x;
    }

    static void type(TensMill x, String text) {
        for (int i = 0; i < text.length(); i += 8) {
            long eight = 0;
            for (int k = i; k < text.length() && k < i + 8; k++) {
                eight = eight << 8 | text.charAt(k);
            }
            if (!x.type(eight)) {
                due("type of " + text, true, false);
            }
        }
    }

    static boolean read(TensMill x, int d, String text) {
        type(x, text);
        return x.read(d);
    }

    /** A register as "U@S". */
    static String show(TensMill x, int a) {
        StringBuilder text = new StringBuilder();
        if (x.sign(a) < 0) {
            text.append('-');
        }
        for (int k = x.precision(a) - 1; k >= 0; k--) {
            text.append(x.digit(a, k));
        }
        return text.append('@').append(x.scale(a)).toString();
    }

    /** The register when the call was done, or "no". */
    static String shown(boolean done, TensMill x, int a) {
        return done ? show(x, a) : "no";
    }

    static String laid(TensMill x) {
        StringBuilder text = new StringBuilder();
        for (int k = 0; x.characterAt(k) >= 0; k++) {
            text.append((char) x.characterAt(k));
        }
        return text.toString();
    }

    static String written(TensMill x, int a, int how) {
        int length = x.write(a, how);
        if (length < 0) {
            return "no";
        }
        String text = laid(x);
        due("length of " + text, length, text.length());
        return text;
    }
}
