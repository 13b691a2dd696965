/** Promises 29 to 33: unknown sheets, forged deeds, inks told apart, the soonest ink. */
public final class SheetsTest {
    public static void main(String[] args) {
        wrongTapes();
        fits();
        asks();
        forged();
        apart();
        soonest();
        Kit.end();
    }

    private static String rows(int... bytes) {
        StringBuilder out = new StringBuilder();
        for (int b : bytes) {
            out.append((char) b);
        }
        return out.toString();
    }

    private static int pairs(LateInks x, int... bytes) {
        Kit.tape(x, rows(bytes));
        return x.jars(false);
    }

    private static int inks(LateInks x, int... bytes) {
        Kit.tape(x, rows(bytes));
        return x.jars(true);
    }

    private static int time(LateInks x, int... bytes) {
        Kit.tape(x, rows(bytes));
        return x.ask();
    }

    private static void wrongTapes() {
        LateInks x = Kit.made("party 1;ink age 3");
        int[] full = new int[40];
        Kit.is("20 rows", pairs(x, full), 21);
        int[][] wrong = {{1}, {1, 0, 1}, {61, 0}, {255, 0}, {0, 2}, {0, 255}, new int[42], {0, 0, 1, 1, 70, 0}, new int[39]};
        for (int[] bytes : wrong) {
            Kit.tape(x, rows(bytes));
            Kit.fails("jars", Kit.ARGUMENT, () -> x.jars(true));
            Kit.is("used up", x.end(1), false);
            Kit.tape(x, rows(bytes));
            Kit.fails("ask", Kit.ARGUMENT, () -> x.ask());
            Kit.is("used up", x.end(1), false);
        }
        Kit.is("none told", pairs(x), 21);
        Kit.is("60 is the last", pairs(x, 60, 1), 21);
        Kit.is("no fault", x.fault(), -1);
    }

    private static void fits() {
        // Ink 0 shows from written and 3 on; ink 1 two seasons long, each season but the first of a year by 1 and 4.
        LateInks x = Kit.made("ink age 3;ink age 10 keeps 2 soaks 8;damp spring 0;damp summer 5;damp autumn 5;damp winter 5");
        Kit.is("all", pairs(x), 42);
        Kit.is("seen at 3", pairs(x, 3, 1), 3);
        Kit.is("seen at 3", inks(x, 3, 1), 3);
        Kit.is("not seen at 4", pairs(x, 3, 1, 4, 0), 0);
        // Ink 1, written 0: 1, 6, 11 at 2: from 3 on; 1: 5, 10 at 2: from 3 on; 2: from 4 on; 3: 5, 6, 11 at 5: from 6 on.
        Kit.is("not seen at 5", pairs(x, 3, 1, 5, 0), 2);
        Kit.is("not seen at 5", inks(x, 3, 1, 5, 0), 2);
        Kit.is("seen at 4, not at 5", pairs(x, 4, 1, 5, 0), 2);
        Kit.is("seen at 5, not at 6", pairs(x, 5, 1, 6, 0), 1);
        Kit.is("both ways", pairs(x, 5, 1, 5, 0), 0);
        Kit.is("both ways", inks(x, 5, 1, 5, 0), 0);
        Kit.is("late ones", pairs(x, 22, 0, 60, 1), 1);
        Kit.is("without inks", pairs(new LateInks(), 1, 1), 0);
        x.seasons(3);
        Kit.is("the time now is nothing to it", pairs(x, 3, 1), 3);
    }

    private static void asks() {
        LateInks x = Kit.made("ink age 3");
        // 21 pairs, from 3 to 23 on: at 12 ten can be read, at 13 eleven.
        Kit.is("the middle", time(x), 12);
        Kit.is("of few", time(x, 3, 0, 5, 1), 4);
        Kit.is("of one", time(x, 3, 0, 4, 1), -1);
        Kit.is("of none", time(x, 4, 1, 5, 0), -1);
        Kit.is("without inks", time(new LateInks()), -1);
        LateInks late = Kit.made("ink age 40;ink age 41");
        Kit.is("the last time", time(late, 59, 0), 60);
        LateInks twins = Kit.made("ink age 3;ink age 3");
        Kit.is("none parts them: the least", time(twins, 3, 1), 0);
    }

    private static void forged() {
        LateInks x = Kit.made("party 9;party 9;ink age 5 soaks 5;damp spring 2;damp summer 4;time 1;"
                + "deed ink 0 from 0 to 1 sum 1;deed ink 0 from 0 to 1 sum 1;deed ink 0 from 0 to 1 sum 1");
        Kit.fails("deed", Kit.BOUNDS, () -> x.forged(3));
        Kit.fails("deed", Kit.BOUNDS, () -> x.forged(-1));
        Kit.fails("not up", Kit.STATE, () -> x.forged(0));
        x.burn(2);
        x.seasons(1);
        // 3 by summer, 2 by autumn: up at 2.
        Kit.is("warmed at its time", x.warm(0, 0), 8);
        Kit.is("as it should", x.deed(0, 9), 2);
        Kit.is("true", x.forged(0), false);
        x.seasons(1);
        Kit.is("made less ripe by that", x.reads(), 1);
        x.seasons(1);
        Kit.is("a season late", x.forged(1), true);
        Kit.fails("burnt, never up", Kit.STATE, () -> x.forged(2));
        x.burn(0);
        Kit.is("burnt, but was up", x.forged(0), false);
        Kit.port(x, "damp summer 9");
        Kit.is("by damp as it is now", x.forged(0), true);
    }

    private static void apart() {
        Kit.is("without inks", new LateInks().apart(), 0);
        Kit.is("alike", Kit.made("ink age 1 soaks 3;ink age 4 soaks 3").apart(), 0);
        Kit.is("no season parts", Kit.made("ink age 1 soaks 3;ink age 4 soaks 4").apart(), -1);
        Kit.is("winter does", Kit.made("ink age 1 soaks 3;ink age 4 soaks 4;damp winter 5").apart(), 8);
        // 1 by 9 is 0, 2 by 9 is 1, 3 by 9 is 2; by 5: 0, 1, 1; by 4: 0, 0, 1.
        Kit.is("two are needed", Kit.made("ink age 1 soaks 1;ink age 1 soaks 2;ink age 1 soaks 3;damp summer 5;damp winter 4")
                .apart(), 10);
        Kit.is("three are needed", Kit.made("ink age 1 soaks 4;ink age 1 soaks 5;ink age 1 soaks 6;ink age 1 soaks 7;"
                + "damp spring 0;damp summer 2;damp autumn 3;damp winter 5").apart(), 14);
        Kit.is("one is fewer", Kit.made("ink age 1 soaks 1;ink age 1 soaks 2;ink age 1 soaks 3;damp spring 5;damp summer 4;"
                + "damp winter 9").apart(), 8);
    }

    private static void soonest() {
        LateInks x = Kit.made("ink age 9;ink age 7 soaks 5;ink age 9 soaks 9;damp summer 0;damp autumn 0;damp winter 8");
        Kit.is("without inks", new LateInks().soonest(false), -1);
        Kit.is("without inks", new LateInks().soonest(true), -1);
        // Ink 1: 2, 3, 4, 9; ink 2: 2, 3, 4, 12.
        Kit.is("soonest", x.soonest(false), 1);
        Kit.is("in", x.soonest(true), 4);
        x.seasons(3);
        Kit.is("now in winter", x.soonest(false), 1);
        Kit.is("in", x.soonest(true), 2);
        Kit.is("80", Kit.made("ink age 81;ink age 80").soonest(false), 1);
        Kit.is("80", Kit.made("ink age 81;ink age 80").soonest(true), 80);
        Kit.is("81", Kit.made("ink age 81").soonest(false), -1);
        Kit.is("81", Kit.made("ink age 81").soonest(true), -1);
    }
}
