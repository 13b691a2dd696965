/** Promises 51, 53 to 55: SEED, THE IMAGE and counts. */
public final class KeptTest {
    public static void main(String[] args) {
        seeds();
        images();
        nothingIsLeft();
        counts();
        Kit.end();
    }

    private static void seeds() {
        LateInks x = new LateInks();
        Kit.is("seed", x.seed(Integer.MIN_VALUE), 1);
        Kit.is("seed", x.seed(-1), Integer.MIN_VALUE);
        Kit.is("no act", x.count(11), 0);
        x.seasons(1);
        Kit.is("goes round", x.seed(0), -1103515245 + 12345);
    }

    private static void images() {
        LateInks x = Kit.made("party 30;party 30;ink age 4;spray 40;deed ink 0 from 0 to 1 sum 4");
        Kit.is("none kept", x.back(), false);
        x.seasons(2);
        Kit.is("nothing happened", x.count(11), 1);
        Kit.law(x, "cost 2");
        x.salt(4);
        String before = Kit.sight(x);
        x.image();
        Kit.same("keeping changes nothing", Kit.sight(x), before);
        Kit.port(x, "party 4;ink age 2;damp summer 9;deed ink 1 from 2 to 0 sum 9;salt 8;spray 0");
        Kit.law(x, "ripe 3;ripe 2");
        x.seasons(30);
        x.burn(0);
        x.seed(77);
        Kit.lawFault(x, "x");
        Kit.tape(x, "left");
        Kit.is("back", x.back(), true);
        Kit.same("all is back", Kit.sight(x), before);
        Kit.is("no act is remembered", x.count(11), 0);
        Kit.is("texts", x.count(3), 1);
        Kit.is("law", x.count(4), 1);
        Kit.is("fault stays", x.fault(), 0);
        Kit.is("tape stays", x.end(4), true);
        Kit.is("undo", x.undo(), false);
        x.burn(0);
        x.image();
        Kit.is("an image lets acts be remembered", x.count(11), 1);
        x.undo();
        Kit.is("undone", x.blank(), 1);
        Kit.is("back again", x.back(), true);
        Kit.is("the later image", x.blank(), 0);
        x.salt(9);
        Kit.is("and again", x.back(), true);
        Kit.is("salt", x.count(6), 4);
    }

    /** What came behind an image leaves no trace in what comes again. */
    private static void nothingIsLeft() {
        LateInks x = Kit.made("party 0;party 9;ink age 2;deed ink 0 from 0 to 1 sum 5");
        x.image();
        Kit.port(x, "party 0;ink age 1 keeps 1 soaks 9;deed ink 1 from 2 to 1 sum 5 term 1 on 0 but 0;deed ink 0 from 2 to 1 sum 5");
        x.seasons(9);
        Kit.is("broke", x.broken(), 5);
        x.back();
        Kit.is("no log", x.count(10), 0);
        Kit.port(x, "party 7;ink age 3");
        Kit.is("not broke", x.party(2, 1), 0);
        Kit.is("keeps none", x.ink(1, 1), 0);
        Kit.is("soaks none", x.ink(1, 2), 0);
        Kit.is("written", x.write(1, 0, 1, 4, 3), 1);
        Kit.is("written", x.write(1, 0, 1, 4, 3), 2);
        int[] due = {1, 0, 1, 4, 3, -1, -1, 0, 0, -1, 0, 0};
        for (int what = 0; what < due.length; what++) {
            Kit.is("deed " + what, x.deed(1, what), due[what]);
            Kit.is("deed " + what, x.deed(2, what), due[what]);
        }
    }

    private static void counts() {
        LateInks x = Kit.made("party 30;party 12;ink age 1;deed ink 0 from 0 to 1 sum 4;deed ink 0 from 0 to 1 sum 4 term 9;"
                + "deed ink 0 from 0 to 1 sum 4", "spray 7;salt 5");
        Kit.law(x, "ripe 1;ripe 1;cost 3 if 1<2");
        x.seasons(3);
        x.burn(0);
        int[] due = {2, 1, 3, 2, 3, 3, 5, 7, 42, 5, 6, 2, -1};
        for (int i = 0; i < due.length; i++) {
            Kit.is("count " + i, x.count(i), due[i]);
        }
        Kit.is("count", x.count(-1), -1);
        Kit.is("count", x.count(Integer.MAX_VALUE), -1);
        Kit.is("count", x.count(Integer.MIN_VALUE), -1);
    }
}
