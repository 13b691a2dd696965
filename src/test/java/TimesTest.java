/** Promises 20 to 23, 26, 45 to 47: what comes when, seasons ahead, trials and spans. */
public final class TimesTest {
    public static void main(String[] args) {
        whenAndDue();
        barelyWithin();
        burntAndFaded();
        ruin();
        aheadAndWealth();
        trialsAndSpans();
        Kit.end();
    }

    private static void whenAndDue() {
        LateInks x = Kit.made("party 9;party 9;ink age 3;ink age 7 keeps 2;deed ink 0 from 0 to 1 sum 1 term 4;"
                + "deed ink 1 from 0 to 1 sum 1;deed ink 1 from 0 to 1 sum 1 term 2;deed ink 0 from 0 to 1 sum 1 on 1");
        int[] whens = {3, 7, 7, 3};
        int[] dues = {7, 7, -1, 7};
        for (int d = 0; d < 4; d++) {
            Kit.is("when " + d, x.when(d), whens[d]);
            Kit.is("due " + d, x.due(d), dues[d]);
        }
        Kit.is("late, the least", x.late(), 1);
        Kit.fails("when", Kit.BOUNDS, () -> x.when(4));
        Kit.fails("when", Kit.BOUNDS, () -> x.when(-1));
        Kit.fails("due", Kit.BOUNDS, () -> x.due(4));
        Kit.fails("due", Kit.BOUNDS, () -> x.due(-1));
        x.seasons(7);
        for (int d = 0; d < 4; d++) {
            Kit.is("when " + d, x.when(d), 0);
            Kit.is("due " + d, x.due(d), d == 2 ? -1 : 0);
        }
        Kit.is("late", x.late(), 0);
        Kit.is("late without deeds", new LateInks().late(), -1);
    }

    private static void barelyWithin() {
        LateInks x = Kit.made("party 9;party 9;ink age 80;ink age 81;spray 100;deed ink 0 from 0 to 1 sum 99;"
                + "deed ink 1 from 0 to 1 sum 99;deed ink 0 from 0 to 1 sum 9 term 1");
        Kit.is("80", x.when(0), 80);
        Kit.is("81 is too far, and ahead there is no spray", x.when(1), -1);
        Kit.is("due 80", x.due(0), 80);
        Kit.is("due 81 is too far", x.due(2), -1);
        Kit.is("price", x.deed(0, 15), 19);
        Kit.is("price without a when", x.deed(1, 15), 0);
        Kit.is("price, 0 at least", x.deed(2, 15), 0);
        Kit.is("ruin", x.ruin(false), 80);
        Kit.is("late", x.late(), 0);
        Kit.is("early", x.early(0), 40);
        Kit.is("early, without a when", x.early(1), 0);
        Kit.fails("early", Kit.BOUNDS, () -> x.early(3));
        Kit.fails("early", Kit.BOUNDS, () -> x.early(-1));
        x.warm(0, 0);
        Kit.is("early of one that is read", x.early(0), 0);
    }

    private static void burntAndFaded() {
        LateInks x = Kit.made("party 9;party 9;ink age 1 keeps 1;ink age 2;deed ink 0 from 0 to 1 sum 1 term 5;"
                + "deed ink 1 from 0 to 1 sum 1;deed ink 1 from 0 to 1 sum 1");
        x.burn(1);
        Kit.is("burnt, never up", x.when(1), -1);
        Kit.is("burnt, never due", x.due(1), -1);
        x.seasons(2);
        Kit.is("faded", x.deed(0, 10), 2);
        Kit.is("was to be read", x.when(0), 0);
        x.burn(2);
        Kit.is("burnt, but was up", x.when(2), 0);
        Kit.is("burnt, but paid", x.due(2), 0);
        Kit.is("late", x.late(), 0);
    }

    private static void ruin() {
        LateInks x = Kit.made("party 5;party 5;party 5;ink age 4;deed ink 0 from 2 to 0 sum 6;deed ink 0 from 1 to 0 sum 6;"
                + "deed ink 0 from 0 to 1 sum 16");
        Kit.is("in 4", x.ruin(false), 4);
        Kit.is("the least of these", x.ruin(true), 0);
        Kit.is("none now", x.broken(), 0);
        x.lend(2, 0, 1);
        Kit.is("party 0 can pay now, 1 cannot", x.ruin(true), 0);
        x.seasons(4);
        Kit.is("all", x.broken(), 7);
        Kit.is("at once", x.ruin(false), 0);
        Kit.is("none at all", Kit.made("party 1").ruin(false), -1);
        Kit.is("none at all", Kit.made("party 1").ruin(true), -1);
    }

    private static void aheadAndWealth() {
        LateInks x = Kit.made("party 9;party 9;ink age 3 keeps 2 soaks 5;spray 100;deed ink 0 from 0 to 1 sum 4 term 1");
        for (int n : new int[] {-1, 81, Integer.MAX_VALUE, Integer.MIN_VALUE}) {
            Kit.fails("ahead", Kit.BOUNDS, () -> x.ahead(1, n, 3));
            Kit.fails("ahead", Kit.ARGUMENT, () -> x.ahead(0, n, 3));
            Kit.fails("wealth", Kit.BOUNDS, () -> x.wealth(2, n));
            Kit.fails("wealth", Kit.ARGUMENT, () -> x.wealth(0, n));
            Kit.fails("trial", Kit.ARGUMENT, () -> x.trial(n, true));
            Kit.fails("span", Kit.ARGUMENT, () -> x.span(n, true));
        }
        Kit.fails("ahead", Kit.ELEMENT, () -> x.ahead(0, 0, 3));
        Kit.fails("ahead", Kit.ELEMENT, () -> x.ahead(0, 80, -1));
        int[][] due = {{0, 0, 0, 9}, {2, 0, 0, 9}, {4, 1, 0, 9}, {4, 1, 1, 5}, {4, 2, 1, 5}};
        for (int n = 0; n < due.length; n++) {
            for (int what = 0; what < 3; what++) {
                Kit.is("ahead " + n + " " + what, x.ahead(0, n, what), due[n][what]);
            }
            Kit.is("wealth " + n, x.wealth(0, n), due[n][3]);
        }
        Kit.is("ahead 80", x.ahead(0, 80, 1), 2);
        Kit.is("wealth 80", x.wealth(1, 80), 13);
        Kit.is("nothing stays", x.deed(0, 8) + x.count(5) + x.count(10) + x.count(11), 0);
        Kit.is("no draws", x.seed(1), 1);
    }

    private static void trialsAndSpans() {
        LateInks x = Kit.made("party 9;party 3;ink age 9;ink age 11;spray 50;deed ink 0 from 0 to 1 sum 4;"
                + "deed ink 1 from 1 to 0 sum 20;deed ink 1 from 0 to 1 sum 1 term 1");
        for (int seed = -3; seed < 30; seed++) {
            for (int n : new int[] {1, 6, 7, 8, 9, 13, 80}) {
                x.seed(seed);
                int reads = x.trial(n, false);
                int broke = x.trial(n, true);
                Kit.is("the seed stays", x.seed(seed), seed);
                x.seasons(n);
                Kit.is("trial", reads, x.reads());
                Kit.is("trial of the broke", broke, x.broken());
                x.undo();
            }
        }
        for (int n = 1; n <= 12; n++) {
            int least = 8;
            int most = 0;
            for (int seed = 1; seed <= 6; seed++) {
                x.seed(seed);
                x.seasons(n);
                least = Math.min(least, Integer.bitCount(x.count(9)));
                most = Math.max(most, Integer.bitCount(x.count(9)));
                x.undo();
            }
            Kit.is("span, least " + n, x.span(n, false), least);
            Kit.is("span, most " + n, x.span(n, true), most);
        }
        // Only seed 1 has no spray within 13 seasons, and only seed 6 within 7.
        LateInks first = Kit.made("party 9;party 9;ink age 14;spray 8;deed ink 0 from 0 to 1 sum 1");
        Kit.is("from seed 1 on", first.span(13, false), 0);
        Kit.is("from seed 1 on", first.span(13, true), 1);
        LateInks last = Kit.made("party 9;party 9;ink age 8;spray 11;deed ink 0 from 0 to 1 sum 1");
        Kit.is("to seed 6", last.span(7, false), 0);
        Kit.is("to seed 6", last.span(7, true), 1);
        x.seed(1);
        x.seasons(20);
        Kit.is("paid ones count, too", x.span(0, false), 3);
        Kit.is("paid ones count, too", x.span(0, true), 3);
        Kit.is("trial of none", x.trial(0, false), 7);
    }
}
