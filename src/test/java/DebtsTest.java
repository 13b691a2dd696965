/** Promises 34 to 37: debts netted, rings of debts, who could be spared. */
public final class DebtsTest {
    public static void main(String[] args) {
        owes();
        rings();
        smallestRing();
        pivots();
        Kit.end();
    }

    private static void owes() {
        LateInks x = Kit.made("party 50;party 50;party 50;ink age 1;ink age 40;deed ink 0 from 0 to 1 sum 9 term 5;"
                + "deed ink 0 from 1 to 0 sum 4 term 9;deed ink 0 from 1 to 2 sum 8 term 9;deed ink 0 from 0 to 1 sum 7 term 9 but 1;"
                + "deed ink 1 from 2 to 0 sum 30 term 9");
        Kit.fails("party", Kit.BOUNDS, () -> x.owes(3, 3));
        Kit.fails("party alone", Kit.BOUNDS, () -> x.owes(3, 0));
        Kit.fails("party alone", Kit.BOUNDS, () -> x.owes(-1, 0));
        Kit.fails("other", Kit.BOUNDS, () -> x.owes(0, -1));
        Kit.fails("one", Kit.ARGUMENT, () -> x.owes(1, 1));
        Kit.is("blank ones do not count", x.owes(0, 1), 0);
        Kit.is("blank ones do not count", x.cleared(), 0);
        x.seasons(1);
        Kit.is("less those back", x.owes(0, 1), 5);
        Kit.is("0 at least", x.owes(1, 0), 0);
        Kit.is("owes", x.owes(1, 2), 8);
        Kit.is("owes", x.owes(2, 0), 0);
        // 0: 5; 1: 8 less 5; 2: less than 0.
        Kit.is("cleared", x.cleared(), 8);
        Kit.is("no ring", x.ring(0), false);
        x.burn(1);
        Kit.is("barred no more", x.owes(0, 1), 16);
        // 0: 16; 1: 8 less 16.
        Kit.is("cleared", x.cleared(), 16);
        x.seasons(5);
        Kit.is("paid ones do not count", x.owes(0, 1), 7);
        Kit.is("without parties", new LateInks().cleared(), 0);
    }

    private static void rings() {
        LateInks x = Kit.made("party 9;party 9;party 9;party 9;party 9;party 9;ink age 1;"
                + "deed ink 0 from 0 to 1 sum 3 term 9;deed ink 0 from 1 to 2 sum 3 term 9;deed ink 0 from 2 to 3 sum 3 term 9;"
                + "deed ink 0 from 3 to 1 sum 3 term 9;deed ink 0 from 3 to 4 sum 3 term 9;deed ink 0 from 4 to 3 sum 3 term 9");
        Kit.fails("party", Kit.BOUNDS, () -> x.ring(6));
        Kit.fails("party", Kit.BOUNDS, () -> x.ring(-1));
        Kit.is("blank", x.ring(1), false);
        x.seasons(1);
        boolean[] due = {false, true, true, true, false, false};
        for (int i = 0; i < 6; i++) {
            Kit.is("ring " + i, x.ring(i), due[i]);
        }
        LateInks six = Kit.made("party 9;party 9;party 9;party 9;party 9;party 9;ink age 1",
                "deed ink 0 from 0 to 5 sum 3 term 9;deed ink 0 from 5 to 4 sum 3 term 9;deed ink 0 from 4 to 3 sum 3 term 9;"
                + "deed ink 0 from 3 to 2 sum 3 term 9;deed ink 0 from 2 to 1 sum 3 term 9;deed ink 0 from 1 to 0 sum 3 term 9");
        six.seasons(1);
        for (int i = 0; i < 6; i++) {
            Kit.is("all in one", six.ring(i), true);
        }
        Kit.is("all cleared", six.cleared(), 0);
    }

    private static void smallestRing() {
        LateInks x = Kit.made("party 9;party 9;party 9;ink age 1;deed ink 0 from 0 to 1 sum 1 term 9;"
                + "deed ink 0 from 1 to 2 sum 1 term 9;deed ink 0 from 2 to 0 sum 1 term 9");
        x.seasons(1);
        for (int i = 0; i < 3; i++) {
            Kit.is("of single coins", x.ring(i), true);
        }
    }

    private static void pivots() {
        Kit.is("without parties", new LateInks().pivot(), -1);
        LateInks x = Kit.made("party 9;party 9;party 9;party 9;ink age 1;deed ink 0 from 0 to 1 sum 9 term 9;"
                + "deed ink 0 from 2 to 3 sum 8 term 9;deed ink 0 from 3 to 2 sum 2 term 9;deed ink 0 from 1 to 2 sum 3 term 9");
        Kit.is("of nothing the least", x.pivot(), 0);
        x.seasons(1);
        // Without 0: 1 owes 3, 2 owes 6 less 3; without 1: 6; without 2: 9; without 3: 9.
        Kit.is("pivot, of several the least", x.pivot(), 0);
        x.burn(2);
        // Without 0: 3 and 5; without 1: 8; without 2: 9.
        Kit.is("pivot", x.pivot(), 0);
        x.burn(0);
        // Without 0: 3 and 5; without 1: 8; without 2: 0.
        Kit.is("pivot", x.pivot(), 2);
    }
}
