/**
 * One call on a new mill: what it gives, or that it is refused, and that nothing else is new then.
 *
 * <p>Every trial is made twice, with a new mill and with one that has held long numbers before: what
 * they left behind must not show. Every mill holds a text that was laid out and one that was typed,
 * so that later calls show whether they stand. A trial stays under the 512 calls for which the
 * document speaks, but where a text is too long for that.
 */
final class Trial {
    private static final String LAID = "-1.5";
    private static final int SHORT = 60;

    private Trial() {}

    /** A call that is done or refused. */
    interface Call {
        boolean on(TensMill x);
    }

    /** A call that asks. */
    interface Question {
        int on(TensMill x);
    }

    /** The call is done, and of all registers only d is new. */
    static void gives(String what, String due, int d, Call call, String... numbers) {
        gives(mill(numbers), what, due, d, call);
        gives(usedMill(numbers), "used mill, " + what, due, d, call);
    }

    private static void gives(TensMill x, String what, String due, int d, Call call) {
        String[] before = glances(x);
        Bench.due(what + " is done", true, call.on(x));
        Bench.due(what, due, glance(x, d));
        before[d] = due;
        stands(what, x, before);
    }

    /** The call is done, and of all registers only q and r are new. */
    static void givesBoth(
            String what, String dueQ, String dueR, int q, int r, Call call, String... numbers) {
        givesBoth(mill(numbers), what, dueQ, dueR, q, r, call);
        givesBoth(usedMill(numbers), "used mill, " + what, dueQ, dueR, q, r, call);
    }

    private static void givesBoth(
            TensMill x, String what, String dueQ, String dueR, int q, int r, Call call) {
        String[] before = glances(x);
        Bench.due(what + " is done", true, call.on(x));
        before[q] = dueQ;
        before[r] = dueR;
        stands(what, x, before);
    }

    static void refused(String what, Call call, String... numbers) {
        refused(mill(numbers), what, call);
        refused(usedMill(numbers), "used mill, " + what, call);
    }

    private static void refused(TensMill x, String what, Call call) {
        String[] before = glances(x);
        Bench.due(what + " is done", false, call.on(x));
        stands(what + ", refused", x, before);
    }

    static void answers(String what, int due, Question question, String... numbers) {
        answers(mill(numbers), what, due, question);
        answers(usedMill(numbers), "used mill, " + what, due, question);
    }

    private static void answers(TensMill x, String what, int due, Question question) {
        String[] before = glances(x);
        Bench.due(what, due, question.on(x));
        stands(what, x, before);
    }

    /** The table's "no" stands for a call that is refused. */
    static void givesOrNot(String what, String due, Call call, String... numbers) {
        if (due.equals("no")) {
            refused(what, call, numbers);
        } else {
            gives(what, due, 7, call, numbers);
        }
    }

    /**
     * Registers from 0 on hold the numbers: a numeral; "7x4096" is 7 written 4096 times, "10^n" a
     * power, both with a scale behind an @ if it is not 0 and a - in front if they are below 0.
     */
    static TensMill mill(String... numbers) {
        return filled(new TensMill(), numbers);
    }

    private static TensMill usedMill(String... numbers) {
        TensMill x = new TensMill();
        putLong(x, 5, "9x100");
        for (int d = 0; d < 5; d++) {
            x.copy(d, 5, true);
        }
        // All rows that a mill works in are full of nines after these.
        x.add(6, 5, 5);
        x.root(7, 5, 90, 0);
        x.ratio(7, 5, 7, 90, 0);
        x.rescale(7, 5, -1, 1);
        x.compare(5, 5);
        Bench.type(x, "-0.0099E-9");
        x.read(7);
        x.write(7, 2);
        for (int d = 0; d < 8; d++) {
            x.put(d, 0, 0);
        }
        return filled(x, numbers);
    }

    private static TensMill filled(TensMill x, String... numbers) {
        for (int i = 0; i < numbers.length; i++) {
            if (isLong(numbers[i])) {
                putLong(x, i, numbers[i]);
            }
        }
        x.put(6, 0, 0);
        x.put(7, -15, 1);
        Bench.due("what is laid out", LAID.length(), x.write(7, 0));
        x.put(7, 0, 0);
        for (int i = 0; i < numbers.length; i++) {
            if (!isLong(numbers[i]) && !Bench.read(x, i, numbers[i])) {
                Bench.due("read of " + numbers[i], true, false);
            }
        }
        Bench.type(x, "4");
        return x;
    }

    private static boolean isLong(String number) {
        return number.indexOf('x') >= 0 || number.indexOf('^') >= 0;
    }

    private static void putLong(TensMill x, int d, String number) {
        boolean below = number.charAt(0) == '-';
        String size = below ? number.substring(1) : number;
        int at = size.indexOf('@');
        int scale = at < 0 ? 0 : Integer.parseInt(size.substring(at + 1));
        String digits = at < 0 ? size : size.substring(0, at);
        int mark = Math.max(digits.indexOf('x'), digits.indexOf('^'));
        int first = Integer.parseInt(digits.substring(0, mark));
        int count = Integer.parseInt(digits.substring(mark + 1));
        boolean done;
        if (digits.charAt(mark) == '^') {
            done = x.put(d, first, 0) && x.power(d, d, count);
        } else {
            done = x.put(6, 1, 0) && x.put(7, 9, 0) && x.ratio(6, 6, 7, count, 1);
            done = done && x.put(7, first, 0) && x.times(d, 6, 7);
        }
        // In two steps, because the least int has no opposite.
        done = done && x.move(d, d, x.scale(d)) && x.move(d, d, -(scale / 2));
        done = done && x.move(d, d, scale / 2 - scale) && x.copy(d, d, below);
        Bench.due("put of " + number, true, done);
    }

    /** A register as "U@S"; of a long U the ends alone, and between them how many digits it has. */
    static String glance(TensMill x, int a) {
        int digits = x.precision(a);
        if (digits <= SHORT) {
            return Bench.show(x, a);
        }
        StringBuilder text = new StringBuilder(x.sign(a) < 0 ? "-" : "");
        for (int k = digits - 1; k >= digits - 4; k--) {
            text.append(x.digit(a, k));
        }
        text.append("..").append(digits).append("..");
        for (int k = 3; k >= 0; k--) {
            text.append(x.digit(a, k));
        }
        return text.append('@').append(x.scale(a)).toString();
    }

    private static String[] glances(TensMill x) {
        String[] all = new String[8];
        for (int a = 0; a < 8; a++) {
            all[a] = glance(x, a);
        }
        return all;
    }

    private static void stands(String what, TensMill x, String[] registers) {
        for (int a = 0; a < 8; a++) {
            Bench.due(what + ": register " + a, registers[a], glance(x, a));
        }
        Bench.due(what + ": what was laid out", LAID, Bench.laid(x));
        Bench.type(x, "2");
        Bench.due(what + ": the typed text", "42@0", Bench.shown(x.read(7), x, 7));
    }
}
