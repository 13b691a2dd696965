/** Promises 38 to 41: buyers, two heirs, odds of spray, coming up early. */
public final class DealsTest {
    public static void main(String[] args) {
        buyers();
        noBuyers();
        rests();
        odds();
        early();
        Kit.end();
    }

    private static void buyers() {
        // Prices are sums less 10.
        LateInks x = Kit.made("party 50;party 50;party 6;party 20;ink age 10;deed ink 0 from 0 to 1 sum 16;"
                + "deed ink 0 from 0 to 1 sum 20;deed ink 0 from 1 to 2 sum 17;deed ink 0 from 2 to 3 sum 30;deed ink 0 from 0 to 3 sum 10");
        Kit.fails("deed", Kit.BOUNDS, () -> x.buyers(5));
        Kit.fails("deed", Kit.BOUNDS, () -> x.buyers(-2));
        // 0 to 2 (6), 1 to 3 (10), and 3 (20) and 2 (7) to 0 and 1: 2 may not be 1's, so 2 to 0 and 3 to 1.
        Kit.is("how much", x.buyers(-1), 43);
        int[] due = {2, 3, 0, 1, -1};
        for (int d = 0; d < 5; d++) {
            Kit.is("buyer of " + d, x.buyers(d), due[d]);
        }
        x.warm(3, 0);
        Kit.is("one fewer is blank", x.buyers(-1), 23);
        Kit.is("it is not sold", x.buyers(3), -1);
        LateInks like = Kit.made("party 9;party 9;party 9;party 9;ink age 1;deed ink 0 from 0 to 1 sum 5;"
                + "deed ink 0 from 0 to 1 sum 5;deed ink 0 from 0 to 1 sum 5");
        Kit.is("two of three", like.buyers(-1), 8);
        int[] first = {-1, 2, 3};
        for (int d = 0; d < 3; d++) {
            Kit.is("the first way: none is the least", like.buyers(d), first[d]);
        }
    }

    private static void noBuyers() {
        Kit.is("without deeds", Kit.made("party 9;party 9").buyers(-1), 0);
        LateInks two = Kit.made("party 9;party 9;ink age 1;deed ink 0 from 0 to 1 sum 5");
        Kit.is("only its own", two.buyers(-1), 0);
        Kit.is("only its own", two.buyers(0), -1);
        LateInks poor = Kit.made("party 9;party 9;party 3;ink age 1;deed ink 0 from 0 to 1 sum 5");
        Kit.is("too dear", poor.buyers(-1), 0);
        LateInks able = Kit.made("party 9;party 9;party 4;ink age 1;deed ink 0 from 0 to 1 sum 5");
        Kit.is("just enough", able.buyers(-1), 4);
        Kit.is("just enough", able.buyers(0), 2);
    }

    private static void rests() {
        LateInks x = Kit.made("party 9;party 9;party 9;party 9;ink age 9;salt 5;deed ink 0 from 0 to 1 sum 7;deed ink 0 from 0 to 1 sum 3");
        Kit.fails("party", Kit.BOUNDS, () -> x.rests(4, 4, 0));
        Kit.fails("party alone", Kit.BOUNDS, () -> x.rests(4, 0, 0));
        Kit.fails("other", Kit.BOUNDS, () -> x.rests(0, -1, 0));
        Kit.fails("deed", Kit.BOUNDS, () -> x.rests(0, 0, 2));
        Kit.fails("one", Kit.ARGUMENT, () -> x.rests(1, 1, 0));
        // The creditor would warm alone (7 less 5), the debtor never.
        Kit.is("debtor and creditor", x.rests(0, 1, 0), 1 << 2);
        Kit.is("creditor and debtor", x.rests(1, 0, 0), 1 << 1);
        Kit.is("too dear", x.rests(1, 0, 1), 1 << 3);
        Kit.is("two others", x.rests(2, 3, 0), 1 << 3);
        x.salt(1);
        // Half of 1 is 0: both may warm at no cost, and none alone for others.
        Kit.is("two others, cheap", x.rests(2, 3, 0), 1 << 0 | 1 << 3);
        Kit.is("the creditor and another", x.rests(1, 2, 0), 1 << 0 | 1 << 1);
        x.salt(0);
        Kit.is("for nothing", x.rests(2, 3, 0), 15);
        x.warm(0, 0);
        Kit.is("not blank", x.rests(2, 3, 0), -1);
        x.burn(1);
        Kit.is("burnt", x.rests(2, 3, 1), -1);
    }

    private static void odds() {
        LateInks x = Kit.made("spray 30");
        for (int n : new int[] {-1, 7, Integer.MIN_VALUE, Integer.MAX_VALUE}) {
            Kit.fails("n", Kit.ARGUMENT, () -> x.odds(n, 0));
            Kit.fails("k", Kit.ARGUMENT, () -> x.odds(0, n));
        }
        int[][] due = {{0, 0, 10000}, {0, 1, 0}, {1, 1, 3000}, {2, 1, 5100}, {2, 2, 900}, {3, 1, 6570}, {3, 2, 2160}, {3, 3, 270},
            {6, 6, 7}, {6, 0, 10000}, {6, 1, 8823}, {6, 5, 109}, {4, 5, 0}, {5, 6, 0}};
        for (int[] row : due) {
            Kit.is("odds " + row[0] + " " + row[1], x.odds(row[0], row[1]), row[2]);
        }
        LateInks all = Kit.made("spray 100");
        Kit.is("sure", all.odds(6, 6), 10000);
        LateInks most = Kit.made("spray 99");
        Kit.is("nearly sure", most.odds(6, 1), 9999);
    }

    private static void early() {
        LateInks x = Kit.made("party 9;party 9;ink age 7;ink age 99;deed ink 0 from 0 to 1 sum 1;deed ink 1 from 0 to 1 sum 1;"
                + "deed ink 0 from 0 to 1 sum 1");
        Kit.is("7 and 4", x.early(0), 3);
        Kit.is("99 and 50", x.early(1), 0);
        Kit.law(x, "slow 1 if deed<1;slow 2 if deed>1");
        Kit.is("never and 7", x.early(0), 0);
        Kit.is("never and 7", x.early(2), 0);
        Kit.law(x, "ripe 5");
        Kit.is("2 and 1", x.early(0), 1);
        x.burn(0);
        Kit.is("burnt", x.early(0), 0);
    }
}
