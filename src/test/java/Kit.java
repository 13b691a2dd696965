import java.util.NoSuchElementException;
import java.util.function.IntConsumer;

/** What all tests share: telling texts, and noting answers that are not as due. */
final class Kit {
    static final Class<?> BOUNDS = IndexOutOfBoundsException.class;
    static final Class<?> ARGUMENT = IllegalArgumentException.class;
    static final Class<?> STATE = IllegalStateException.class;
    static final Class<?> ELEMENT = NoSuchElementException.class;
    static final Class<?> UNSUPPORTED = UnsupportedOperationException.class;

    private static int wrong = 0;

    private Kit() {
    }

    static void is(String what, long got, long want) {
        if (got != want) {
            wrong++;
            System.out.println(what + " answered " + got + ", due is " + want);
        }
    }

    static void is(String what, boolean got, boolean want) {
        is(what, got ? 1 : 0, want ? 1 : 0);
    }

    static void fails(String what, Class<?> due, Runnable call) {
        Class<?> got = null;
        try {
            call.run();
        } catch (RuntimeException e) {
            got = e.getClass();
        }
        if (got != due) {
            wrong++;
            System.out.println(what + " threw " + got + ", due is " + due);
        }
    }

    /** Puts the text on the tape, which must be empty, byte by byte as its characters are. */
    static void tape(LateInks x, String text) {
        int[] bytes = new int[(text.length() + 19) / 20 * 20];
        for (int i = 0; i < text.length(); i++) {
            bytes[i] = text.charAt(i);
        }
        for (int i = 0; i < bytes.length; i += 20) {
            x.feed(word(bytes, i), word(bytes, i + 4), word(bytes, i + 8), word(bytes, i + 12), word(bytes, i + 16));
        }
        is("end of the tape", x.end(text.length()), true);
    }

    private static int word(int[] bytes, int at) {
        return bytes[at] << 24 | bytes[at + 1] << 16 | bytes[at + 2] << 8 | bytes[at + 3];
    }

    static int port(LateInks x, String text) {
        tape(x, text);
        return x.port();
    }

    static int law(LateInks x, String text) {
        tape(x, text);
        return x.law();
    }

    static LateInks made(String... texts) {
        LateInks x = new LateInks();
        for (String text : texts) {
            port(x, text);
        }
        return x;
    }

    /** Reads a text of the port and answers its first wrong byte. */
    static int portFault(LateInks x, String text) {
        tape(x, text);
        try {
            x.port();
            is("fault of a right text: " + text, x.fault(), LateInks.NONE);
        } catch (IllegalArgumentException e) {
            is("a wrong text has a fault: " + text, x.fault() >= 0, true);
        }
        return x.fault();
    }

    static int lawFault(LateInks x, String text) {
        tape(x, text);
        try {
            x.law();
            is("fault of a right law: " + text, x.fault(), LateInks.NONE);
        } catch (IllegalArgumentException e) {
            is("a wrong law has a fault: " + text, x.fault() >= 0, true);
        }
        return x.fault();
    }

    /** All that is undone and kept, as it can be seen: the tape, the fault and the acts remembered are not in it. */
    static String sight(LateInks x) {
        StringBuilder out = new StringBuilder();
        for (int i = 0; i <= 10; i++) {
            out.append(x.count(i)).append(' ');
        }
        for (int i = 0; i < x.count(0); i++) {
            out.append("| p");
            for (int what = 0; what <= 6; what++) {
                out.append(' ').append(x.party(i, what));
            }
        }
        for (int i = 0; i < x.count(1); i++) {
            out.append("| i");
            for (int what = 0; what <= 3; what++) {
                out.append(' ').append(x.ink(i, what));
            }
        }
        for (int i = 0; i < x.count(2); i++) {
            out.append("| d");
            for (int what = 0; what <= 15; what++) {
                out.append(' ').append(x.deed(i, what));
            }
        }
        for (int i = 0; i < 4; i++) {
            out.append("| w ").append(x.damp(i));
        }
        for (int i = 0; i < x.count(10); i++) {
            out.append("| l");
            for (int what = 0; what <= 3; what++) {
                out.append(' ').append(x.log(i, what));
            }
        }
        int seed = x.seed(0);
        x.seed(seed);
        return out.append("| s ").append(seed).toString();
    }

    /** All that calls show, but for the tape and the fault: also what only follows from what there is. */
    static String held(LateInks x) {
        StringBuilder out = new StringBuilder(sight(x));
        put(out, " acts", x.count(11), x.reads(), x.blank(), x.valid(), x.broken(), x.alike(), x.richest());
        put(out, " times", x.ruin(false), x.ruin(true), x.late(), x.trial(9, false), x.trial(9, true), x.span(9, false), x.span(9, true));
        put(out, " sheets", x.apart(), x.soonest(false), x.soonest(true));
        put(out, " debts", x.cleared(), x.pivot(), x.buyers(LateInks.NONE), x.odds(6, 2));
        for (int i = 0; i < x.count(0); i++) {
            put(out, " party", x.wealth(i, 9), x.net(i, -1), x.worth(i, 9, false), x.worth(i, 9, true), x.ring(i) ? 1 : 0);
            for (int j = 0; j < x.count(0); j++) {
                put(out, " owes", i == j ? 0 : x.owes(i, j));
            }
        }
        for (int i = 0; i < x.count(2); i++) {
            put(out, " deed", x.when(i), x.due(i), x.chain(i), x.hangs(i), x.buyers(i), x.early(i), x.led(i, false), x.led(i, true));
            put(out, " ahead", x.ahead(i, 3, 0), x.ahead(i, 3, 1), x.ahead(i, 3, 2));
            put(out, " forged", x.deed(i, 9) == LateInks.NONE ? -1 : x.forged(i) ? 1 : 0);
            put(out, " rests", x.count(0) > 1 ? x.rests(0, 1, i) : -1);
        }
        return out.toString();
    }

    private static void put(StringBuilder out, String name, int... numbers) {
        out.append(name);
        for (int n : numbers) {
            out.append(' ').append(n);
        }
    }

    /** How many bytes the tape has: the most that an end takes, which then leaves them all. */
    static int tapeLength(LateInks x) {
        for (int n = 400; n > 0; n--) {
            if (x.end(n)) {
                return n;
            }
        }
        return 0;
    }

    static String whole(LateInks x) {
        return held(x) + " fault " + x.fault() + " tape " + tapeLength(x);
    }

    /** The call throws just this, and nothing that other calls show is changed by it. */
    static void refuses(LateInks x, String what, Class<?> due, Runnable call) {
        String before = whole(x);
        fails(what, due, call);
        same("behind " + what, whole(x), before);
    }

    /** Refuses all of these numbers. */
    static void refusesAll(LateInks x, String what, Class<?> due, IntConsumer call, int... numbers) {
        for (int n : numbers) {
            refuses(x, what + " of " + n, due, () -> call.accept(n));
        }
    }

    static void row(LateInks x, int ago, int time, int deed, int kind, int coins) {
        int[] due = {time, deed, kind, coins};
        for (int what = 0; what < 4; what++) {
            is("log " + ago + " " + what, x.log(ago, what), due[what]);
        }
    }

    static void same(String what, String got, String want) {
        if (!got.equals(want)) {
            wrong++;
            int at = 0;
            while (at < got.length() && at < want.length() && got.charAt(at) == want.charAt(at)) {
                at++;
            }
            System.out.println(what + ", from sign " + at + " on:\n  got  .." + got.substring(at) + "\n  want .." + want.substring(at));
        }
    }

    /** Ends the run with exit code 1, if an answer was wrong. */
    static void end() {
        if (wrong != 0) {
            System.out.println(wrong + " answers are not as due");
            System.exit(1);
        }
    }
}
