import java.lang.reflect.InvocationTargetException;
import java.lang.reflect.Method;
import java.util.Arrays;
import java.util.Comparator;
import java.util.List;
import java.util.Random;

/** Wild calls: nothing is thrown but what the face declares, and what throws or only asks changes nothing. */
public final class WildTest {
    private static final String[] SCRAPS = {"party 9", ";", "ink age 3", " keeps 2", " soaks 9", ";deed ink 0 from 0 to 1 sum 8", " term 1",
        " on 0", " but 0", ";damp summer 8", "salt 3", ";spray 50", "time 9", "ripe 2", "slow 1", ";cost 3", " if ", "leaning", " and ", " or ",
        "not ", "(", ")", "sum<9", "ripe+1>salt", "7", "999", "1000", "?", " ", "z"};
    private static final List<String> ACTS = List.of("seasons", "write", "warm", "burn", "lend", "salt", "bar", "port", "law", "seed", "undo",
            "back");
    private static final int[] NUMBERS = {-2, -1, 0, 0, 0, 1, 1, 1, 2, 3, 4, 5, 6, 7, 8, 9, 20, 21, 80, 81, 99, 100, 999, 1000,
        Integer.MAX_VALUE, Integer.MIN_VALUE};

    private final Random chance;
    private final LateInks x = Kit.made("party 20;party 30;party 5;ink age 4 soaks 6;ink age 2 keeps 5;spray 20",
            "deed ink 0 from 0 to 1 sum 8;deed ink 1 from 1 to 2 sum 9 on 0;deed ink 0 from 2 to 0 sum 3 term 2 but 1");

    private WildTest(int seed) {
        chance = new Random(seed);
    }

    public static void main(String[] args) throws IllegalAccessException {
        Method[] methods = Arrays.stream(LateInks.class.getMethods()).filter(m -> m.getDeclaringClass() == LateInks.class)
                .sorted(Comparator.comparing(Method::getName)).toArray(Method[]::new);
        for (int seed = 0; seed < 40; seed++) {
            WildTest test = new WildTest(seed);
            for (int i = 0; i < 512; i++) {
                test.call(methods[test.chance.nextInt(methods.length)]);
            }
        }
        Kit.end();
    }

    private Object argument(Class<?> type) {
        if (type == boolean.class) {
            return chance.nextBoolean();
        }
        return NUMBERS[chance.nextInt(NUMBERS.length)];
    }

    private String scraps() {
        StringBuilder out = new StringBuilder();
        for (int i = chance.nextInt(8); i > 0; i--) {
            out.append(SCRAPS[chance.nextInt(SCRAPS.length)]);
        }
        return out.toString();
    }

    private void call(Method m) throws IllegalAccessException {
        String name = m.getName();
        if (List.of("port", "law", "jars", "ask").contains(name)) {
            x.end(0);
            Kit.tape(x, name.length() > 3 && chance.nextBoolean() ? "" : scraps());
        }
        Object[] arguments = Arrays.stream(m.getParameterTypes()).map(this::argument).toArray();
        String before = Kit.sight(x);
        int acts = x.count(11);
        boolean threw = false;
        try {
            m.invoke(x, arguments);
        } catch (InvocationTargetException e) {
            threw = true;
            Kit.is(name + Arrays.toString(arguments) + " threw " + e.getCause(),
                    Arrays.asList(m.getExceptionTypes()).contains(e.getCause().getClass()), true);
        }
        if (threw || !ACTS.contains(name)) {
            Kit.same(name + Arrays.toString(arguments), Kit.sight(x), before);
            Kit.is("acts behind " + name, x.count(11), acts);
        }
    }
}
