import java.util.NoSuchElementException;

/** What all tests share: telling texts, and noting answers that are not as due. */
final class Kit {
    static final Class<?> BOUNDS = IndexOutOfBoundsException.class;
    static final Class<?> ARGUMENT = IllegalArgumentException.class;
    static final Class<?> STATE = IllegalStateException.class;
    static final Class<?> ELEMENT = NoSuchElementException.class;
    static final Class<?> UNSUPPORTED = UnsupportedOperationException.class;

    private static int wrong = 0;

    private Kit() {
    }

    static void is(String what, long got, long want) {
        if (got != want) {
            wrong++;
            System.out.println(what + " answered " + got + ", due is " + want);
        }
    }

    static void is(String what, boolean got, boolean want) {
        is(what, got ? 1 : 0, want ? 1 : 0);
    }

    static void fails(String what, Class<?> due, Runnable call) {
        Class<?> got = null;
        try {
            call.run();
        } catch (RuntimeException e) {
            got = e.getClass();
        }
        if (got != due) {
            wrong++;
            System.out.println(what + " threw " + got + ", due is " + due);
        }
    }

    /** Puts the text on the tape, which must be empty, byte by byte as its characters are. */
    static void tape(LateInks x, String text) {
        int[] bytes = new int[(text.length() + 19) / 20 * 20];
        for (int i = 0; i < text.length(); i++) {
            bytes[i] = text.charAt(i);
        }
        for (int i = 0; i < bytes.length; i += 20) {
            x.feed(word(bytes, i), word(bytes, i + 4), word(bytes, i + 8), word(bytes, i + 12), word(bytes, i + 16));
        }
        is("end of the tape", x.end(text.length()), true);
    }

    private static int word(int[] bytes, int at) {
        return bytes[at] << 24 | bytes[at + 1] << 16 | bytes[at + 2] << 8 | bytes[at + 3];
    }

    static int port(LateInks x, String text) {
        tape(x, text);
        return x.port();
    }

    static int law(LateInks x, String text) {
        tape(x, text);
        return x.law();
    }

    static LateInks made(String... texts) {
        LateInks x = new LateInks();
        for (String text : texts) {
            port(x, text);
        }
        return x;
    }

    /** Reads a text of the port and answers its first wrong byte. */
    static int portFault(LateInks x, String text) {
        tape(x, text);
        try {
            x.port();
            is("fault of a right text: " + text, x.fault(), LateInks.NONE);
        } catch (IllegalArgumentException e) {
            is("a wrong text has a fault: " + text, x.fault() >= 0, true);
        }
        return x.fault();
    }

    static int lawFault(LateInks x, String text) {
        tape(x, text);
        try {
            x.law();
            is("fault of a right law: " + text, x.fault(), LateInks.NONE);
        } catch (IllegalArgumentException e) {
            is("a wrong law has a fault: " + text, x.fault() >= 0, true);
        }
        return x.fault();
    }

    /** All that is undone and kept, as it can be seen: the tape, the fault and the acts remembered are not in it. */
    static String sight(LateInks x) {
        StringBuilder out = new StringBuilder();
        for (int i = 0; i <= 10; i++) {
            out.append(x.count(i)).append(' ');
        }
        for (int i = 0; i < x.count(0); i++) {
            out.append("| p");
            for (int what = 0; what <= 6; what++) {
                out.append(' ').append(x.party(i, what));
            }
        }
        for (int i = 0; i < x.count(1); i++) {
            out.append("| i");
            for (int what = 0; what <= 3; what++) {
                out.append(' ').append(x.ink(i, what));
            }
        }
        for (int i = 0; i < x.count(2); i++) {
            out.append("| d");
            for (int what = 0; what <= 15; what++) {
                out.append(' ').append(x.deed(i, what));
            }
        }
        for (int i = 0; i < 4; i++) {
            out.append("| w ").append(x.damp(i));
        }
        for (int i = 0; i < x.count(10); i++) {
            out.append("| l");
            for (int what = 0; what <= 3; what++) {
                out.append(' ').append(x.log(i, what));
            }
        }
        int seed = x.seed(0);
        x.seed(seed);
        return out.append("| s ").append(seed).toString();
    }

    static void same(String what, String got, String want) {
        if (!got.equals(want)) {
            wrong++;
            System.out.println(what + ":\n  got  " + got + "\n  want " + want);
        }
    }

    /** Ends the run with exit code 1, if an answer was wrong. */
    static void end() {
        if (wrong != 0) {
            System.out.println(wrong + " answers are not as due");
            System.exit(1);
        }
    }
}
