/** Promises 20 to 23, 26 and 45 to 47 at their edges: the first N and the last (0 to 80), none, and that nothing stays. */
public final class EdgeTimesTest {
    private static final String DEED = "deed ink 0 from 0 to 1 sum 1";

    public static void main(String[] args) {
        whens();
        whenOfEachState();
        dues();
        ruins();
        wealths();
        lates();
        aheads();
        withoutSpray();
        trials();
        spans();
        Kit.end();
    }

    private static LateInks aged(int age) {
        return Kit.made("party 99;party 99;ink age " + age + ";" + DEED);
    }

    /** The first N AHEAD: 0, 1, 79, 80; none beyond. */
    private static void whens() {
        for (int age : new int[] {1, 2, 79, 80}) {
            LateInks x = aged(age);
            Kit.is("when", x.when(0), age);
            x.seasons(age);
            Kit.is("now", x.when(0), 0);
        }
        for (int age : new int[] {81, 82, 99}) {
            LateInks x = aged(age);
            Kit.is("beyond 80", x.when(0), -1);
            x.seasons(age - 80);
            Kit.is("80", x.when(0), 80);
        }
        LateInks stopped = aged(3);
        Kit.law(stopped, "slow 1 if ripe>1");
        Kit.is("never", stopped.when(0), -1);
        stopped.seasons(2);
        stopped.warm(0, 0);
        Kit.is("warmed", stopped.when(0), 0);
    }

    /** Is to be read, or was: faded ones and burnt ones that came up have 0; a burnt one that never did has none. */
    private static void whenOfEachState() {
        LateInks x = Kit.made("party 9;party 9;ink age 5;ink age 1;ink age 1 keeps 1;deed ink 0 from 0 to 1 sum 1;deed ink 1 from 0 to 1 sum 1;"
                + "deed ink 2 from 0 to 1 sum 1;deed ink 1 from 0 to 1 sum 1;deed ink 0 from 0 to 1 sum 1;deed ink 2 from 0 to 1 sum 1");
        x.burn(4);
        x.seasons(2);
        x.burn(3);
        x.burn(5);
        int[] due = {3, 0, 0, 0, -1, 0};
        for (int d = 0; d < 6; d++) {
            Kit.is("when " + d, x.when(d), due[d]);
        }
        x.seasons(80);
        Kit.is("never", x.when(4), -1);
    }

    /** PAID already; at N 1, 80; not within 80; never. */
    private static void dues() {
        for (int term : new int[] {0, 1, 20}) {
            LateInks x = Kit.made("party 99;party 99;ink age 60;ink age 61;ink age 80;" + DEED + " term " + term + ";deed ink 1 from 0 to 1 sum 1 term " + term
                    + ";deed ink 2 from 0 to 1 sum 1 term " + term);
            Kit.is("due", x.due(0), 60 + term);
            Kit.is("due", x.due(1), term == 20 ? -1 : 61 + term);
            Kit.is("due", x.due(2), term == 0 ? 80 : -1);
            x.seasons(60);
            Kit.is("due", x.due(0), term);
            Kit.is("due", x.due(1), term + 1);
            Kit.is("due", x.due(2), term + 20);
        }
        // At the SEASON in which it is paid N is 1; behind it 0, burnt or faded or not.
        LateInks x = Kit.made("party 9;party 9;ink age 1 keeps 3;" + DEED + " term 2;deed ink 0 from 0 to 1 sum 1 term 3;deed ink 0 from 0 to 1 sum 99");
        x.seasons(2);
        Kit.is("next", x.due(0), 1);
        Kit.is("fades ahead of it", x.due(1), -1);
        Kit.is("paid by one who was broke then", x.due(2), 0);
        x.seasons(2);
        Kit.is("paid, then faded", x.due(0), 0);
        Kit.is("faded, never paid", x.due(1), -1);
        x.burn(0);
        Kit.is("paid, then burnt", x.due(0), 0);
        // Barred till the bar fades; leaning till that one comes up.
        LateInks y = Kit.made("party 9;party 9;ink age 1;ink age 2 keeps 4;deed ink 1 from 0 to 1 sum 1;deed ink 0 from 0 to 1 sum 1 on 0;"
                + "deed ink 0 from 0 to 1 sum 1 term 2 but 0");
        Kit.is("with the one on which it leans", y.due(1), 2);
        Kit.is("when its bar fades", y.due(2), 6);
        y.burn(0);
        Kit.is("on a burnt one", y.due(1), -1);
        Kit.is("barred by a burnt one", y.due(2), 3);
    }

    private static void ruins() {
        for (int age : new int[] {1, 80}) {
            LateInks x = Kit.made("party 9;party 9;party 0;ink age " + age + ";deed ink 0 from 2 to 1 sum 1");
            Kit.is("in", x.ruin(false), age);
            Kit.is("who", x.ruin(true), 2);
            x.seasons(age);
            Kit.is("now", x.ruin(false), 0);
            Kit.is("who", x.ruin(true), 2);
        }
        LateInks far = Kit.made("party 0;party 9;ink age 81;" + DEED);
        Kit.is("beyond 80", far.ruin(false), -1);
        Kit.is("beyond 80", far.ruin(true), -1);
        LateInks just = Kit.made("party 1;party 9;ink age 1;" + DEED);
        Kit.is("just enough", just.ruin(false), -1);
        Kit.is("just enough", just.ruin(true), -1);
        // The first of all, of several at once the least, though by a later DEED.
        LateInks x = Kit.made("party 0;party 0;party 0;party 0;ink age 3;ink age 2;deed ink 0 from 0 to 1 sum 1;deed ink 1 from 3 to 1 sum 1;"
                + "deed ink 1 from 2 to 1 sum 1");
        Kit.is("the first", x.ruin(false), 2);
        Kit.is("the least then", x.ruin(true), 2);
        x.seasons(3);
        Kit.is("all who are broke now", x.ruin(true), 0);
        Kit.is("now", x.ruin(false), 0);
    }

    private static void wealths() {
        LateInks x = Kit.made("party 9;party 3;ink age 1;ink age 80;deed ink 0 from 0 to 1 sum 4;deed ink 1 from 1 to 0 sum 5");
        int[][] rows = {{0, 9, 3}, {1, 5, 7}, {79, 5, 7}, {80, 10, 2}};
        for (int[] row : rows) {
            Kit.is("wealth by " + row[0], x.wealth(0, row[0]), row[1]);
            Kit.is("wealth by " + row[0], x.wealth(1, row[0]), row[2]);
        }
        Kit.is("nothing stays", x.party(0, 0) + x.count(5) + x.count(10) + x.count(11), 9);
    }

    /** The most WHEN of all that have one, of several the least; none without a DEED that has one. */
    private static void lates() {
        LateInks x = Kit.made("party 9;party 9;ink age 1;ink age 80;ink age 81;deed ink 2 from 0 to 1 sum 1;deed ink 0 from 0 to 1 sum 1");
        Kit.is("one has none", x.late(), 1);
        x.burn(1);
        Kit.is("none has one", x.late(), -1);
        x.write(1, 0, 1, 1, 0);
        x.write(1, 0, 1, 1, 0);
        Kit.is("of two the least", x.late(), 2);
        x.burn(2);
        Kit.is("the other", x.late(), 3);
        x.seasons(1);
        Kit.is("80, just so", x.late(), 0);
        LateInks all = Kit.made("party 9;party 9;ink age 1;" + DEED + ";" + DEED);
        all.seasons(1);
        Kit.is("all have 0", all.late(), 0);
        all.burn(0);
        Kit.is("burnt, but it came up", all.late(), 0);
    }

    /** RIPE, STATE and PAID at N 0, at the last N, and on both sides of a change. */
    private static void aheads() {
        LateInks x = Kit.made("party 9;party 9;ink age 78 keeps 2;ink age 80;" + DEED + " term 1;deed ink 1 from 0 to 1 sum 1");
        int[][] rows = {{0, 0, 0, 0, 0, 0, 0}, {1, 1, 0, 0, 1, 0, 0}, {77, 77, 0, 0, 77, 0, 0}, {78, 78, 1, 0, 78, 0, 0}, {79, 78, 1, 1, 79, 0, 0},
            {80, 78, 2, 1, 80, 1, 1}};
        for (int[] row : rows) {
            for (int i = 0; i < 6; i++) {
                Kit.is("ahead " + row[0] + " " + i, x.ahead(i / 3, row[0], i % 3), row[i + 1]);
            }
        }
        String before = Kit.held(x);
        x.ahead(1, 80, 2);
        Kit.same("nothing stays", Kit.held(x), before);
        x.burn(0);
        Kit.is("burnt", x.ahead(0, 80, 1), 3);
        Kit.is("burnt", x.ahead(0, 80, 0), 0);
        x.warm(1, 0);
        Kit.is("warmed, not paid yet", x.ahead(1, 0, 1) * 10 + x.ahead(1, 0, 2), 10);
        Kit.is("paid", x.ahead(1, 1, 1) * 10 + x.ahead(1, 1, 2), 11);
    }

    /** AHEAD there is no spray and there are no DRAWS, whatever SPRAY is; a TRIAL has both. */
    private static void withoutSpray() {
        LateInks x = Kit.made("party 9;party 9;ink age 10;spray 100;" + DEED);
        Kit.is("when", x.when(0), 10);
        Kit.is("due", x.due(0), 10);
        Kit.is("late", x.late(), 0);
        Kit.is("ahead", x.ahead(0, 9, 0), 9);
        Kit.is("wealth", x.wealth(0, 9), 9);
        Kit.is("wealth", x.wealth(0, 10), 8);
        Kit.is("trial", x.trial(4, false), 0);
        Kit.is("trial", x.trial(5, false), 1);
        Kit.is("span", x.span(4, true), 0);
        Kit.is("span", x.span(5, false), 1);
        Kit.is("no draws stay", x.seed(1), 1);
        LateInks y = Kit.made("party 0;party 9;ink age 10;spray 100;" + DEED);
        Kit.is("ruin", y.ruin(false), 10);
        Kit.is("trial of the broke", y.trial(4, true), 0);
        Kit.is("trial of the broke", y.trial(5, true), 1);
    }

    /** From now on: N 0 and 80, SEED as it is, and nothing stays. */
    private static void trials() {
        LateInks x = Kit.made("party 0;party 9;ink age 80;ink age 79;" + DEED + ";deed ink 1 from 1 to 0 sum 1");
        Kit.is("0", x.trial(0, false), 0);
        Kit.is("0", x.trial(0, true), 0);
        Kit.is("79", x.trial(79, false), 2);
        Kit.is("79", x.trial(79, true), 0);
        Kit.is("80", x.trial(80, false), 3);
        Kit.is("80: it has got a coin by then", x.trial(80, true), 0);
        x.lend(1, 0, 9);
        Kit.is("the other one has none", x.trial(79, true), 2);
        x.seasons(79);
        Kit.is("now", x.trial(0, false), 2);
        Kit.is("now", x.trial(0, true), 2);
        LateInks y = Kit.made("party 9;party 9;ink age 3;spray 39;" + DEED);
        // Behind SEED 1 the DRAWS are 38, 58, 13 modulo 100.
        Kit.is("spray in the first", y.trial(2, false), 1);
        y.seasons(1);
        y.undo();
        y.seed(1103527590);
        Kit.is("none in the next", y.trial(1, false), 0);
        Kit.is("but behind it", y.trial(2, false), 1);
        String before = Kit.held(y);
        y.trial(80, true);
        Kit.same("nothing stays", Kit.held(y), before);
        Kit.is("nor of draws", y.seed(0), 1103527590);
    }

    /** From SEED 1, 2, .. 6, whatever SEED is; all that are PAID by then count. */
    private static void spans() {
        LateInks x = Kit.made("party 9;party 9;ink age 80;ink age 1;" + DEED + ";" + DEED);
        for (int d = 0; d < 6; d++) {
            x.write(1, 0, 1, 0, 0);
        }
        Kit.is("0", x.span(0, false) * 10 + x.span(0, true), 0);
        Kit.is("1", x.span(1, false) * 10 + x.span(1, true), 66);
        Kit.is("79", x.span(79, false) * 10 + x.span(79, true), 66);
        Kit.is("80: all", x.span(80, false) * 10 + x.span(80, true), 88);
        x.seasons(1);
        x.burn(7);
        Kit.is("those paid already", x.span(0, false) * 10 + x.span(0, true), 66);
        // The DRAW behind each of SEED 1 to 6, modulo 100: SPRAY above it lets that one come up at once.
        long least = 100;
        long most = 0;
        for (int seed = 1; seed <= 6; seed++) {
            long draw = (1103515245L * seed + 12345L & 0xffffffffL) / 65536 % 32768 % 100;
            least = Math.min(least, draw);
            most = Math.max(most, draw);
        }
        for (int spray = 0; spray <= 100; spray++) {
            LateInks y = Kit.made("party 9;party 9;ink age 2;spray " + spray + ";" + DEED);
            y.seed(7);
            Kit.is("least with spray " + spray, y.span(1, false), spray > most ? 1 : 0);
            Kit.is("most with spray " + spray, y.span(1, true), spray > least ? 1 : 0);
            Kit.is("the seed stays", y.seed(1), 7);
        }
    }
}
