/** Promises 7 to 9, 17 to 19, 24, 25, 42 to 44 and 50 at their edges; and what a port without anything answers to all. */
public final class EdgeThingsTest {
    private static final String DEED = "deed ink 0 from 0 to 1 sum 1";

    public static void main(String[] args) {
        emptyPort();
        partiesWithoutDeeds();
        shares();
        inks();
        deeds();
        sets();
        validByStates();
        chains();
        richest();
        alike();
        broken();
        damps();
        Kit.end();
    }

    /** Without PARTIES, INKS and DEEDS. */
    private static void emptyPort() {
        LateInks x = new LateInks();
        Kit.is("reads, blank, valid", x.reads() + x.blank() + x.valid(), 0);
        Kit.is("broken, alike", x.broken() + x.alike(), 0);
        Kit.is("ruin", x.ruin(false), -1);
        Kit.is("who", x.ruin(true), -1);
        Kit.is("late", x.late(), -1);
        Kit.is("apart", x.apart(), 0);
        Kit.is("soonest", x.soonest(false), -1);
        Kit.is("soonest", x.soonest(true), -1);
        Kit.is("cleared", x.cleared(), 0);
        Kit.is("pivot", x.pivot(), -1);
        Kit.is("buyers", x.buyers(LateInks.NONE), 0);
        Kit.is("richest", x.richest(), -1);
        for (int n : new int[] {0, 1, 80}) {
            Kit.is("trial", x.trial(n, false), 0);
            Kit.is("trial", x.trial(n, true), 0);
            Kit.is("span", x.span(n, false), 0);
            Kit.is("span", x.span(n, true), 0);
        }
        Kit.is("jars", x.jars(false), 0);
        Kit.is("jars", x.jars(true), 0);
        Kit.is("ask", x.ask(), -1);
        Kit.is("coins", x.count(8), 0);
        Kit.is("paid", x.count(9), 0);
    }

    private static void partiesWithoutDeeds() {
        LateInks x = Kit.made("party 4;party 0");
        for (int p = 0; p < 2; p++) {
            for (int what = 3; what <= 6; what++) {
                Kit.is("party " + what, x.party(p, what), 0);
            }
            Kit.is("net", x.net(p, -1), 0);
            Kit.is("worth", x.worth(p, 999, true), 0);
            Kit.is("worth", x.worth(p, 999, false), 0);
            Kit.is("ring", x.ring(p), false);
            Kit.is("owes", x.owes(p, 1 - p), 0);
            Kit.is("wealth", x.wealth(p, 80), 4 - 4 * p);
        }
        Kit.is("ruin: none is broke without coins", x.ruin(false), -1);
        Kit.is("pivot", x.pivot(), 0);
        Kit.is("pivot of one", Kit.made("party 3").pivot(), 0);
    }

    /** In hundredths, rounded down; 0 without COINS at all. */
    private static void shares() {
        int[][] rows = {{0, 0, 0, 0}, {1, 0, 100, 0}, {1, 1, 50, 50}, {1, 2, 33, 66}, {1, 99, 1, 99}, {1, 100, 0, 99}, {999, 1, 99, 0},
            {2, 199, 0, 99}, {199, 1, 99, 0}};
        for (int[] row : rows) {
            LateInks x = Kit.made("party " + row[0] + ";party " + row[1]);
            Kit.is("share of " + row[0], x.party(0, 2), row[2]);
            Kit.is("share of " + row[1], x.party(1, 2), row[3]);
        }
        LateInks six = Kit.made("party 999;party 999;party 999;party 999;party 999;party 999");
        Kit.is("a sixth", six.party(5, 2), 16);
    }

    private static void inks() {
        LateInks x = Kit.made("party 9;party 9;ink age 1;ink age 99 keeps 99 soaks 9;ink age 2;ink age 2;ink age 2;ink age 2 keeps 1");
        int[][] due = {{1, 0, 0, 0}, {99, 99, 9, 0}, {2, 0, 0, 0}, {2, 0, 0, 0}, {2, 0, 0, 0}, {2, 1, 0, 0}};
        for (int i = 0; i < 6; i++) {
            for (int what = 0; what < 4; what++) {
                Kit.is("ink " + i + " " + what, x.ink(i, what), due[i][what]);
            }
        }
        for (int d = 0; d < 8; d++) {
            x.write(5, 0, 1, 1, 0);
        }
        Kit.is("jar of all", x.ink(5, 3), 255);
        Kit.is("jar of none", x.ink(1, 3), 0);
        x.seasons(4);
        Kit.is("jar of faded ones", x.ink(5, 3), 255);
    }

    /** What a DEED answers in each STATE. */
    private static void deeds() {
        LateInks x = Kit.made("party 9;party 9;ink age 2;ink age 2 keeps 1 soaks 5;time 6;deed ink 0 from 0 to 1 sum 9 term 20;"
                + "deed ink 1 from 1 to 0 sum 7;deed ink 0 from 1 to 0 sum 2;deed ink 0 from 0 to 1 sum 3 on 0 but 2");
        Kit.law(x, "ripe 3 if ripe>1;cost 4 if ripe>1;cost 1 if leaning and barred");
        int[][] blank = {{0, 0, 1, 9, 20, -1, -1, 6, 0, -1, 0, 0, 1, 1, 0, 7}, {1, 1, 0, 7, 0, -1, -1, 6, 0, -1, 0, 0, 2, 1, 0, 6},
            {0, 1, 0, 2, 0, -1, -1, 6, 0, -1, 0, 0, 1, 1, 0, 0}, {0, 0, 1, 3, 0, 0, 2, 6, 0, -1, 0, 0, 1, 2, 0, 1}};
        all(x, blank);
        x.burn(2);
        x.seasons(2);
        int[][] later = {{0, 0, 1, 9, 20, -1, -1, 6, 2, 7, 1, 0, 4, 5, 1, 0}, {1, 1, 0, 7, 0, -1, -1, 6, 2, 6, 2, 1, 5, 5, 0, 0},
            {0, 1, 0, 2, 0, -1, -1, 6, 0, -1, 3, 0, 1, 1, 0, 0}, {0, 0, 1, 3, 0, 0, 2, 6, 2, 7, 1, 1, 4, 6, 1, 0}};
        all(x, later);
    }

    private static void all(LateInks x, int[][] due) {
        for (int d = 0; d < due.length; d++) {
            for (int what = 0; what < due[d].length; what++) {
                Kit.is("deed " + d + " " + what, x.deed(d, what), due[d][what]);
            }
        }
    }

    /** None, one, all eight. */
    private static void sets() {
        LateInks x = Kit.made("party 9;party 9;ink age 1;ink age 3 keeps 1");
        x.write(1, 0, 1, 0, 0);
        Kit.is("blank: one", x.blank(), 1);
        for (int d = 1; d < 8; d++) {
            x.write(0, 0, 1, 0, 0);
        }
        Kit.is("blank: all", x.blank(), 255);
        Kit.is("reads: none", x.reads(), 0);
        Kit.is("valid: none", x.valid(), 0);
        x.seasons(1);
        Kit.is("blank: one", x.blank(), 1);
        Kit.is("reads: all others", x.reads(), 254);
        Kit.is("valid: all others", x.valid(), 254);
        Kit.is("paid: all others", x.count(9), 254);
        x.seasons(2);
        Kit.is("blank: none", x.blank(), 0);
        Kit.is("reads: all", x.reads(), 255);
        Kit.is("valid: paid ones, too", x.valid(), 255);
        x.seasons(1);
        Kit.is("reads: not the faded one", x.reads(), 254);
        x.burn(7);
        Kit.is("reads: nor the burnt one", x.reads(), 126);
        Kit.is("valid: neither", x.valid(), 126);
        Kit.is("blank: none of these", x.blank(), 0);
    }

    /** LEANS on one in each STATE, BARRED by one in each STATE: only one that is to be read counts, valid itself or not. */
    private static void validByStates() {
        LateInks x = Kit.made("party 9;party 9;ink age 50;ink age 1;ink age 1 keeps 1;deed ink 0 from 0 to 1 sum 1;"
                + "deed ink 1 from 0 to 1 sum 1;deed ink 2 from 0 to 1 sum 1;deed ink 1 from 0 to 1 sum 1;deed ink 1 from 0 to 1 sum 1 on 0");
        x.write(1, 0, 1, 1, 0);
        x.burn(3);
        x.seasons(2);
        boolean[] bars = {false, true, false, false, true};
        for (int by = -1; by < 5; by++) {
            x.bar(5, by);
            Kit.is("barred by " + by, x.deed(5, 14), by >= 0 && bars[by] ? 0 : 1);
            Kit.is("as bits, barred by " + by, x.valid() >> 5, by >= 0 && bars[by] ? 0 : 1);
        }
        boolean[] leans = {false, true, false, false};
        for (int on = 0; on < 4; on++) {
            LateInks y = Kit.made("party 9;party 9;ink age 50;ink age 1;ink age 1 keeps 1;deed ink 0 from 0 to 1 sum 1;"
                    + "deed ink 1 from 0 to 1 sum 1;deed ink 2 from 0 to 1 sum 1;deed ink 1 from 0 to 1 sum 1;deed ink 1 from 0 to 1 sum 1 on " + on);
            y.burn(3);
            y.seasons(2);
            Kit.is("leans on " + on, y.deed(4, 14), leans[on] ? 1 : 0);
        }
        LateInks chain = Kit.made("party 9;party 9;ink age 50;ink age 1;deed ink 0 from 0 to 1 sum 1;deed ink 1 from 0 to 1 sum 1 on 0;"
                + "deed ink 1 from 0 to 1 sum 1 on 1;deed ink 1 from 0 to 1 sum 1 but 1");
        chain.seasons(1);
        Kit.is("on one that is not valid, but is to be read", chain.valid(), 1 << 2);
    }

    /** CHAIN: itself, too; HANGS: without itself; of all eight in a row, of a tree, of none; STATES are nothing to it. */
    private static void chains() {
        LateInks x = Kit.made("party 9;party 9;ink age 5;" + DEED + ";" + DEED + " on 0;" + DEED + " on 1;" + DEED + " on 2;" + DEED + " on 3;"
                + DEED + " on 4", DEED + " on 5;" + DEED + " on 6");
        for (int d = 0; d < 8; d++) {
            Kit.is("chain of a row " + d, x.chain(d), (2 << d) - 1);
            Kit.is("hangs in a row " + d, x.hangs(d), 255 & ~((2 << d) - 1));
        }
        x.burn(3);
        Kit.is("a burnt one stays in it", x.chain(7), 255);
        LateInks tree = Kit.made("party 9;party 9;ink age 5;" + DEED + ";" + DEED + ";" + DEED + " on 0;" + DEED + " on 0 but 2;" + DEED + " on 3;"
                + DEED + " on 1;" + DEED + " but 0", DEED + " on 0");
        int[] chains = {1, 2, 5, 9, 25, 34, 64, 129};
        int[] hangs = {4 | 8 | 16 | 128, 32, 0, 16, 0, 0, 0, 0};
        for (int d = 0; d < 8; d++) {
            Kit.is("chain of a tree " + d, tree.chain(d), chains[d]);
            Kit.is("hangs in a tree " + d, tree.hangs(d), hangs[d]);
        }
        LateInks one = Kit.made("party 9;party 9;ink age 5;" + DEED);
        Kit.is("chain of one", one.chain(0), 1);
        Kit.is("hangs of one", one.hangs(0), 0);
    }

    /** Of several the least. */
    private static void richest() {
        Kit.is("one", Kit.made("party 0").richest(), 0);
        Kit.is("all alike", Kit.made("party 5;party 5;party 5;party 5;party 5;party 5").richest(), 0);
        Kit.is("the last", Kit.made("party 5;party 5;party 5;party 5;party 5;party 6").richest(), 5);
        Kit.is("two of them", Kit.made("party 4;party 999;party 998;party 999").richest(), 1);
        LateInks x = Kit.made("party 5;party 4;party 5");
        x.lend(0, 1, 1);
        Kit.is("one fewer", x.richest(), 1);
    }

    /** Pairs of DEEDS of like INK, DEBTOR, CREDITOR and SUM, whatever else they are. */
    private static void alike() {
        LateInks x = Kit.made("party 9;party 9;party 9;ink age 5;ink age 5");
        Kit.is("none", x.alike(), 0);
        for (int d = 0; d < 8; d++) {
            x.write(0, 0, 1, 3, d);
            Kit.is("of " + (d + 1), x.alike(), d * (d + 1) / 2);
        }
        x.burn(0);
        x.warm(1, 0);
        x.bar(5, 2);
        Kit.is("whatever they are", x.alike(), 28);
        int[][] others = {{1, 0, 1, 3}, {0, 2, 1, 3}, {0, 0, 2, 3}, {0, 0, 1, 2}, {0, 0, 1, 4}, {0, 1, 0, 3}};
        for (int[] other : others) {
            LateInks y = Kit.made("party 9;party 9;party 9;ink age 5;ink age 5;deed ink 0 from 0 to 1 sum 3");
            y.write(other[0], other[1], other[2], other[3], 0);
            Kit.is("unlike", y.alike(), 0);
            y.write(other[0], other[1], other[2], other[3], 5);
            Kit.is("alike", y.alike(), 1);
        }
    }

    private static void broken() {
        LateInks x = Kit.made("party 0;party 0;party 0;party 0;party 0;party 0;ink age 1");
        Kit.is("none", x.broken(), 0);
        int set = 0;
        for (int p = 0; p < 6; p++) {
            x.write(0, p, (p + 1) % 6, 1, 0);
            x.seasons(1);
            set |= 1 << p;
            Kit.is("broken", x.broken(), set);
            Kit.is("party", x.party(p, 1), 1);
        }
        Kit.is("all", x.broken(), 63);
        x.undo();
        Kit.is("undone", x.broken(), 31);
    }

    private static void damps() {
        LateInks x = Kit.made("damp spring 0;damp summer 9;damp autumn 1;damp winter 8");
        int[] due = {0, 9, 1, 8};
        for (int season = 0; season < 4; season++) {
            Kit.is("damp " + season, x.damp(season), due[season]);
        }
        for (int none : new int[] {-1, 4, 5, Integer.MIN_VALUE, Integer.MAX_VALUE}) {
            Kit.refuses(x, "no season", Kit.BOUNDS, () -> x.damp(none));
        }
    }
}
