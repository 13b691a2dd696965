/** Promises 7 (3 to 6), 27 and 28: readings of blank deeds, and what is worth warming. */
public final class ReadingsTest {
    public static void main(String[] args) {
        nets();
        towardsZero();
        worth();
        Kit.end();
    }

    private static void nets() {
        LateInks x = Kit.made("party 9;party 9;ink age 2;ink age 50;deed ink 0 from 0 to 1 sum 10 term 9;"
                + "deed ink 1 from 1 to 0 sum 4 on 0;deed ink 1 from 1 to 0 sum 7 but 1;deed ink 1 from 0 to 1 sum 20 on 2");
        Kit.fails("net", Kit.BOUNDS, () -> x.net(2, 0));
        Kit.fails("net", Kit.BOUNDS, () -> x.net(-1, 0));
        Kit.is("nothing", x.net(0, 0), 0);
        Kit.is("of all", x.net(0, 15), -10 + 4 - 20);
        Kit.is("bits of none count for nothing", x.net(0, -1), -26);
        Kit.is("leaning on one not read", x.net(0, 2), 0);
        Kit.is("barred by one read, though that is not valid", x.net(0, 6), 0);
        Kit.is("leaning on one barred, but read", x.net(1, 14), 20);
        x.seasons(2);
        Kit.is("as now", x.net(0, 0), -10);
        Kit.is("its bit counts for nothing", x.net(0, 1), -10);
        Kit.is("sure", x.party(0, 3), -26);
        Kit.is("hope", x.party(0, 4), -3);
        Kit.is("by", x.party(0, 5), 4);
        // 0: -10, 2: -6, 4: -3, 6: -6, 8: -10, 10: -6, 12: -23, 14: -26.
        Kit.is("fortune", x.party(0, 6), -90 / 8);
        Kit.is("fortune of the other", x.party(1, 6), 90 / 8);
        x.burn(1);
        x.burn(2);
        x.burn(3);
        Kit.is("fortune of one reading alone", x.party(0, 6), -10);
        Kit.is("sure", x.party(0, 3), -10);
        Kit.is("by nothing", x.party(1, 5), 0);
        x.seasons(10);
        Kit.is("paid ones do not count", x.net(0, 0), 0);
    }

    private static void towardsZero() {
        LateInks x = Kit.made("party 9;party 9;party 0;ink age 50;deed ink 0 from 0 to 1 sum 1");
        Kit.is("of a half below", x.party(0, 6), 0);
        Kit.is("of a half above", x.party(1, 6), 0);
        Kit.is("sure", x.party(0, 3), -1);
        Kit.is("hope", x.party(0, 4), 0);
        Kit.is("by the least", x.party(2, 5), 0);
        Kit.is("by", x.party(1, 5), 1);
    }

    private static void worth() {
        LateInks x = Kit.made("party 9;party 9;ink age 50;salt 3;deed ink 0 from 0 to 1 sum 10;deed ink 0 from 0 to 1 sum 3;"
                + "deed ink 0 from 0 to 1 sum 8;deed ink 0 from 0 to 1 sum 7 on 2");
        Kit.law(x, "cost 4 if sum>9");
        Kit.fails("party", Kit.BOUNDS, () -> x.worth(2, -1, true));
        Kit.fails("c", Kit.ARGUMENT, () -> x.worth(0, -1, true));
        Kit.fails("c", Kit.ARGUMENT, () -> x.worth(0, 1000, true));
        int[][] due = {{0, 0, 0}, {2, 0, 0}, {3, 4, 5}, {5, 4, 5}, {6, 12, 9}, {12, 12, 9}, {13, 13, 12}, {999, 13, 12}};
        for (int[] row : due) {
            Kit.is("worth with " + row[0], x.worth(1, row[0], false), row[1]);
            Kit.is("how much with " + row[0], x.worth(1, row[0], true), row[2]);
        }
        Kit.is("of the debtor", x.worth(0, 999, false), 0);
        x.warm(2, 0);
        x.warm(0, 0 + 1);
        Kit.is("of what is left", x.worth(1, 9, false), 8);
        Kit.is("what is read counts", x.worth(1, 9, true), 10 + 8 + 7 - 3);
        Kit.is("of the debtor below 0", x.worth(0, 9, true), -18);
    }
}
