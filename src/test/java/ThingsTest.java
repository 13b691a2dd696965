/** Promises 7 to 9, 17 to 19, 24, 25, 42 to 44 and 50: what there is, and sets of it. */
public final class ThingsTest {
    public static void main(String[] args) {
        wrongNumbers();
        parties();
        inks();
        deeds();
        sets();
        chains();
        Kit.end();
    }

    private static LateInks port() {
        return Kit.made("party 10;party 20;party 0;ink age 2 keeps 3 soaks 5;ink age 99 soaks 9;damp spring 4;"
                + "deed ink 0 from 0 to 1 sum 15 term 1;deed ink 1 from 1 to 2 sum 5 on 0;deed ink 0 from 2 to 0 sum 7 but 0;"
                + "deed ink 0 from 0 to 1 sum 15 on 1");
    }

    private static void wrongNumbers() {
        LateInks x = port();
        for (int n : new int[] {-1, Integer.MIN_VALUE, Integer.MAX_VALUE}) {
            Kit.fails("party", Kit.BOUNDS, () -> x.party(n, 9));
            Kit.fails("ink", Kit.BOUNDS, () -> x.ink(n, 9));
            Kit.fails("deed", Kit.BOUNDS, () -> x.deed(n, 99));
            Kit.fails("damp", Kit.BOUNDS, () -> x.damp(n));
            Kit.fails("chain", Kit.BOUNDS, () -> x.chain(n));
            Kit.fails("hangs", Kit.BOUNDS, () -> x.hangs(n));
        }
        Kit.fails("party 3", Kit.BOUNDS, () -> x.party(3, 0));
        Kit.fails("ink 2", Kit.BOUNDS, () -> x.ink(2, 0));
        Kit.fails("deed 4", Kit.BOUNDS, () -> x.deed(4, 0));
        Kit.fails("chain 4", Kit.BOUNDS, () -> x.chain(4));
        Kit.fails("hangs 4", Kit.BOUNDS, () -> x.hangs(4));
        Kit.fails("damp 4", Kit.BOUNDS, () -> x.damp(4));
        for (int n : new int[] {-1, Integer.MIN_VALUE, Integer.MAX_VALUE}) {
            Kit.fails("party's what", Kit.ELEMENT, () -> x.party(0, n));
            Kit.fails("ink's what", Kit.ELEMENT, () -> x.ink(0, n));
            Kit.fails("deed's what", Kit.ELEMENT, () -> x.deed(0, n));
        }
        Kit.fails("party's 7", Kit.ELEMENT, () -> x.party(0, 7));
        Kit.fails("ink's 4", Kit.ELEMENT, () -> x.ink(0, 4));
        Kit.fails("deed's 16", Kit.ELEMENT, () -> x.deed(0, 16));
    }

    private static void parties() {
        LateInks x = port();
        Kit.is("coins", x.party(1, 0), 20);
        Kit.is("not broke", x.party(1, 1), 0);
        Kit.is("share", x.party(0, 2), 33);
        Kit.is("share", x.party(1, 2), 66);
        Kit.is("share of nothing", x.party(2, 2), 0);
        Kit.is("share of none", Kit.made("party 0").party(0, 2), 0);
        Kit.is("all coins", x.count(8), 30);
        Kit.is("richest", x.richest(), 1);
        Kit.is("richest, the least", Kit.made("party 3;party 7;party 7").richest(), 1);
        Kit.is("richest of nothing", Kit.made("party 0;party 0").richest(), 0);
        x.seasons(3);
        Kit.is("broke", x.party(0, 1), 1);
        Kit.is("broken", x.broken(), 1);
        Kit.is("paid all", x.party(0, 0), 0);
        Kit.is("got all", x.party(1, 0), 30);
    }

    private static void inks() {
        LateInks x = port();
        int[] due = {2, 3, 5, 13};
        for (int what = 0; what < 4; what++) {
            Kit.is("ink " + what, x.ink(0, what), due[what]);
        }
        Kit.is("jar", x.ink(1, 3), 2);
        x.burn(1);
        Kit.is("jar with burnt ones", x.ink(1, 3), 2);
    }

    private static void deeds() {
        LateInks x = port();
        // Of spring: 5 times 4 by 10 is 2, 9 times 4 by 10 is 3.
        int[][] due = {{0, 0, 1, 15, 1, -1, -1, 0, 0, -1, 0, 0, 3, 1, 0, 14}, {1, 1, 2, 5, 0, 0, -1, 0, 0, -1, 0, 0, 4, 1, 0, 0},
            {0, 2, 0, 7, 0, -1, 0, 0, 0, -1, 0, 0, 3, 1, 0, 6}};
        for (int d = 0; d < due.length; d++) {
            for (int what = 0; what < due[d].length; what++) {
                Kit.is("deed " + d + " " + what, x.deed(d, what), due[d][what]);
            }
        }
        x.seasons(1);
        Kit.is("ripe", x.deed(0, 8), 3);
        Kit.is("up", x.deed(0, 9), 0);
        Kit.is("state", x.deed(0, 10), 1);
        Kit.is("not paid yet", x.deed(0, 11), 0);
        Kit.is("valid", x.deed(0, 14), 1);
        Kit.is("barred", x.deed(2, 14), 0);
        Kit.is("no price", x.deed(0, 15), 0);
        Kit.is("ripens, as if blank", x.deed(0, 12), 2);
        x.seasons(1);
        Kit.is("paid", x.deed(0, 11), 1);
        Kit.is("alike", x.alike(), 1);
        Kit.is("alike: other sums", Kit.made("party 1;party 1;ink age 1;ink age 1;deed ink 0 from 0 to 1 sum 1;"
                + "deed ink 0 from 0 to 1 sum 1 term 3 on 0;deed ink 1 from 0 to 1 sum 1;deed ink 0 from 1 to 0 sum 1;"
                + "deed ink 0 from 0 to 1 sum 2;deed ink 0 from 0 to 1 sum 1").alike(), 3);
    }

    private static void sets() {
        LateInks x = port();
        Kit.is("reads", x.reads(), 0);
        Kit.is("blank", x.blank(), 15);
        Kit.is("valid", x.valid(), 0);
        x.seasons(1);
        Kit.is("reads", x.reads(), 13);
        Kit.is("blank", x.blank(), 2);
        Kit.is("valid: the last leans on a blank one", x.valid(), 1);
        x.burn(0);
        Kit.is("reads", x.reads(), 12);
        Kit.is("valid: the bar is burnt", x.valid(), 4);
        x.undo();
        x.seasons(3);
        Kit.is("faded all at once", x.reads(), 0);
        Kit.is("states", x.deed(3, 10), 2);
        Kit.is("blank", x.blank(), 2);
    }

    private static void chains() {
        LateInks x = port();
        Kit.is("chain 0", x.chain(0), 1);
        Kit.is("chain 1", x.chain(1), 3);
        Kit.is("chain 2", x.chain(2), 4);
        Kit.is("chain 3", x.chain(3), 11);
        Kit.is("hangs 0", x.hangs(0), 10);
        Kit.is("hangs 1", x.hangs(1), 8);
        Kit.is("hangs 2", x.hangs(2), 0);
        Kit.is("hangs 3", x.hangs(3), 0);
    }
}
