import java.lang.reflect.InvocationTargetException;
import java.lang.reflect.Method;
import java.util.ArrayList;
import java.util.Arrays;
import java.util.Comparator;
import java.util.List;

/**
 * What each call of the face leaves as it is: what only asks leaves all, an act all that undoing it does not bring back,
 * undoing and going back the TAPE, fault() and THE IMAGE; a refused call all but the TAPE and fault() of a text.
 * The same object is made twice, the call is made on one of both, and then all is taken out of both.
 */
public final class StayTest {
    private static final List<String> ACTS = List.of("seasons", "write", "warm", "burn", "lend", "salt", "bar");
    private static final List<String> READERS = List.of("port", "law", "jars", "ask");
    // What each kind of object has on its TAPE: a text of THE PORT, THE LAW, rows of JARS, nothing that can be read.
    private static final String[] TAPES = {"salt 7", "cost 3", "\5\1\2\0", "\5\2", ""};

    /** All that one can get out of an object; getting it out uses the object up. */
    private record View(String held, int fault, int tape, String past, String image, String read) {
        static View of(LateInks x) {
            // These two first: what is asked for the rest must not hide what is asked here.
            int fault = x.fault();
            int tape = Kit.tapeLength(x);
            String held = Kit.held(x);
            StringBuilder past = new StringBuilder();
            while (x.undo()) {
                past.append(Kit.sight(x)).append('\n');
            }
            String image = x.back() ? Kit.sight(x) : "none";
            return new View(held, fault, tape, past.toString(), image, read(x));
        }

        private static String read(LateInks x) {
            try {
                return "port " + x.port() + Kit.sight(x);
            } catch (IllegalArgumentException | UnsupportedOperationException e) {
                return "no port, wrong at " + x.fault();
            }
        }
    }

    private static void hold(String what, View got, View want, String but) {
        sameBut(but, "held", what, got.held, want.held);
        sameBut(but, "fault", what, "" + got.fault, "" + want.fault);
        sameBut(but, "tape", what, got.tape + " " + got.read, want.tape + " " + want.read);
        sameBut(but, "past", what, got.past, want.past);
        sameBut(but, "image", what, got.image, want.image);
    }

    private static void sameBut(String but, String part, String what, String got, String want) {
        if (!but.contains(part)) {
            Kit.same(part + " behind " + what, got, want);
        }
    }

    /** Odd kinds have no IMAGE; from 2 on more acts are remembered, from 4 on there are 12 texts, from 6 on no act is remembered. */
    private static LateInks made(int kind, String tape) {
        LateInks x = Kit.made("party 30;party 20;party 9;ink age 3 keeps 4 soaks 4;ink age 5;spray 30;damp spring 7",
                "deed ink 0 from 0 to 1 sum 8;deed ink 1 from 1 to 2 sum 9 on 0;deed ink 1 from 2 to 0 sum 3 term 2 but 1");
        Kit.law(x, "ripe 1 if season>2;cost 1 if leaning");
        for (int i = 0; kind >= 4 && i < (kind < 6 ? 10 : 9); i++) {
            Kit.port(x, i == 8 ? "salt 2" : "");
        }
        x.seasons(1);
        if (kind % 2 == 0) {
            x.seed(99);
            x.image();
        }
        x.salt(3);
        x.seasons(2);
        if (kind >= 2) {
            x.lend(0, 1, 5);
            x.burn(2);
            x.undo();
            x.seed(7);
        }
        if (kind >= 6) {
            Kit.port(x, "");
        }
        Kit.portFault(x, kind % 2 == 0 ? "salt 5;x" : "y");
        // What was ahead must not come out of any later call.
        if (kind < 4) {
            x.wealth(0, 80);
        } else {
            x.ahead(0, 80, 0);
        }
        Kit.tape(x, tape);
        return x;
    }

    public static void main(String[] args) throws IllegalAccessException {
        Method[] methods = Arrays.stream(LateInks.class.getMethods()).filter(m -> m.getDeclaringClass() == LateInks.class)
                .sorted(Comparator.comparing(Method::getName)).toArray(Method[]::new);
        for (int kind = 0; kind < 8; kind++) {
            View[] befores = new View[TAPES.length];
            for (int i = 0; i < TAPES.length; i++) {
                befores[i] = View.of(made(kind, TAPES[i]));
            }
            for (Method m : methods) {
                for (Object[] arguments : argumentsOf(m)) {
                    // Only what reads the TAPE cares for what is on it.
                    for (int i = 0; i < (READERS.contains(m.getName()) ? TAPES.length : 1); i++) {
                        call(m, arguments, made(kind, TAPES[i]), befores[i], kind);
                    }
                }
            }
        }
        backWithoutOne();
        Kit.end();
    }

    private static List<Object[]> argumentsOf(Method m) {
        List<Object[]> out = new ArrayList<>();
        out.add(new Object[0]);
        int parameters = m.getParameterCount();
        for (int p = 0; p < parameters; p++) {
            boolean isBoolean = m.getParameterTypes()[p] == boolean.class;
            Object[] values = isBoolean ? new Object[] {false, true} : parameters > 3 ? new Object[] {0, 1, 21} : new Object[] {-1, 0, 1, 2, 6, 81};
            List<Object[]> longer = new ArrayList<>();
            for (Object[] begun : out) {
                for (Object value : values) {
                    Object[] one = Arrays.copyOf(begun, p + 1);
                    one[p] = value;
                    longer.add(one);
                }
            }
            out = longer;
        }
        return out;
    }

    private static void call(Method m, Object[] arguments, LateInks x, View before, int kind) throws IllegalAccessException {
        String name = m.getName();
        String what = name + Arrays.toString(arguments) + " of kind " + kind;
        int acts = x.count(11);
        Object answer;
        try {
            answer = m.invoke(x, arguments);
        } catch (InvocationTargetException e) {
            boolean reads = name.equals("port") || name.equals("law");
            Kit.is("acts behind " + what, x.count(11), acts);
            hold(what, View.of(x), before, reads ? "fault tape" : READERS.contains(name) ? "tape" : "");
            return;
        }
        if (READERS.contains(name)) {
            read(name, what, x, before, acts);
        } else if (ACTS.contains(name)) {
            Kit.is("acts behind " + what, x.count(11), acts + 1);
            Kit.is("undone behind " + what, x.undo(), true);
            hold(what, View.of(x), before, "");
        } else {
            Kit.is("acts behind " + what, x.count(11), name.equals("undo") ? Math.max(acts - 1, 0) : name.equals("back") && kind % 2 == 0 ? 0 : acts);
            kept(name, what, x, arguments, answer, before);
        }
    }

    /** Of a text that was right no act is remembered; of rows of JARS nothing but the TAPE is changed. */
    private static void read(String name, String what, LateInks x, View before, int acts) {
        boolean isText = name.equals("port") || name.equals("law");
        Kit.is("the tape behind " + what, Kit.tapeLength(x), 0);
        Kit.is("acts behind " + what, x.count(11), isText ? 0 : acts);
        View after = View.of(x);
        Kit.is("fault behind " + what, after.fault, isText ? -1 : before.fault);
        hold(what, after, before, isText ? "held fault tape past" : "tape");
    }

    private static void kept(String name, String what, LateInks x, Object[] arguments, Object answer, View before) {
        switch (name) {
            case "feed":
                Kit.is(what, (Integer) answer, before.tape + 20);
                x.end(before.tape);
                hold(what, View.of(x), before, "");
                break;
            case "end":
                int n = (Integer) arguments[0];
                boolean isDone = n >= 0 && n <= before.tape;
                Kit.is(what, (Boolean) answer, isDone);
                Kit.is("the tape behind " + what, Kit.tapeLength(x), isDone ? n : before.tape);
                hold(what, View.of(x), before, isDone && n < before.tape ? "tape" : "");
                break;
            case "seed":
                x.seed((Integer) answer);
                hold(what, View.of(x), before, "");
                break;
            case "undo":
                View undone = View.of(x);
                boolean wasOne = !before.past.isEmpty();
                Kit.is(what, (Boolean) answer, wasOne);
                hold(what, undone, before, wasOne ? "held past" : "");
                Kit.is("one fewer behind " + what, !wasOne || before.past.endsWith("\n" + undone.past), true);
                break;
            case "image":
                String now = Kit.sight(x);
                View imaged = View.of(x);
                // What is read behind going back depends on where one goes back to.
                hold(what, imaged, before, "image tape");
                Kit.is("the tape behind " + what, imaged.tape, before.tape);
                Kit.same("the image behind " + what, imaged.image, now);
                break;
            case "back":
                String there = Kit.sight(x);
                View gone = View.of(x);
                Kit.is(what, (Boolean) answer, !before.image.equals("none"));
                hold(what, gone, before, (Boolean) answer ? "held past" : "");
                Kit.is("none remembered behind " + what, !(Boolean) answer || gone.past.isEmpty() && there.equals(gone.image), true);
                break;
            default:
                hold(what, View.of(x), before, "");
                break;
        }
    }

    private static void backWithoutOne() {
        LateInks x = Kit.made("party 30;party 30;ink age 4");
        x.salt(4);
        x.salt(5);
        Kit.is("none kept", x.back(), false);
        Kit.is("nothing happened: acts", x.count(11), 2);
        Kit.is("nothing happened: undo", x.undo(), true);
        Kit.is("nothing happened: salt", x.count(6), 4);
    }
}
