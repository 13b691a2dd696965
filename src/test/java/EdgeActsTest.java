/** Promises 10 to 16 and 48 to 55 at their edges: acts, THE LOG, SEED, acts undone, THE IMAGE, counts. */
public final class EdgeActsTest {
    private static final int MIN = Integer.MIN_VALUE;
    private static final int MAX = Integer.MAX_VALUE;
    private static final String DEED = "deed ink 0 from 0 to 1 sum 1";

    public static void main(String[] args) {
        leastAndMostSeasons();
        ripensToTheAge();
        mostRipe();
        fadesJustThen();
        fallsDueJustThen();
        paysWithTheLastCoin();
        laterDeedsOfOneSeason();
        validInTheSeason();
        sprayBarely();
        draws();
        lastTimes();
        mostWritten();
        warmingWithJustEnough();
        halvesTheNextBlank();
        burnsOnce();
        lendsToTheLast();
        saltsAndBars();
        log();
        seeds();
        undoes();
        actsAreThese();
        images();
        rowsOfAnImage();
        nothingIsLeft();
        counts();
        Kit.end();
    }

    private static void deed(LateInks x, int deed, int ripe, int up, int state, int paid) {
        int[] due = {ripe, up, state, paid};
        for (int i = 0; i < 4; i++) {
            Kit.is("deed " + deed + " " + (8 + i), x.deed(deed, 8 + i), due[i]);
        }
    }

    // ---- a SEASON more ----

    private static void leastAndMostSeasons() {
        LateInks x = Kit.made("party 90;party 9;ink age 80;ink age 81;" + DEED + ";deed ink 1 from 0 to 1 sum 2");
        Kit.is("80, and one is paid at the last", x.seasons(80), 1);
        Kit.is("time", x.count(5), 80);
        deed(x, 0, 80, 79, 1, 1);
        deed(x, 1, 80, -1, 0, 0);
        Kit.is("1", x.seasons(1), 1);
        Kit.is("time", x.count(5), 81);
        Kit.is("two acts", x.count(11), 2);
        LateInks none = new LateInks();
        Kit.is("without deeds", none.seasons(80), 0);
        Kit.is("without deeds", none.seasons(1), 0);
        Kit.is("time", none.count(5), 81);
        LateInks all = Kit.made("party 90;party 9;ink age 1");
        for (int i = 0; i < 8; i++) {
            all.write(0, i % 2, 1 - i % 2, 1, i);
        }
        Kit.is("as many as can be", all.seasons(8), 8);
        Kit.is("none twice", all.seasons(80), 0);
    }

    /** RIPE is AGE at least. */
    private static void ripensToTheAge() {
        LateInks x = Kit.made("party 9;party 9;ink age 1;ink age 2;ink age 99;ink age 4 soaks 5;" + DEED + ";deed ink 1 from 0 to 1 sum 1;"
                + "deed ink 2 from 0 to 1 sum 1;deed ink 3 from 0 to 1 sum 1");
        x.seasons(1);
        deed(x, 0, 1, 0, 1, 1);
        deed(x, 1, 1, -1, 0, 0);
        deed(x, 3, 2, -1, 0, 0);
        x.seasons(1);
        deed(x, 0, 1, 0, 1, 1);
        deed(x, 1, 2, 1, 1, 1);
        deed(x, 3, 4, 1, 1, 1);
        x.seasons(80);
        x.seasons(16);
        deed(x, 2, 98, -1, 0, 0);
        x.seasons(1);
        deed(x, 2, 99, 98, 1, 1);
        // SOAKS times DAMP by 10, rounded down: 9 by 9, 9 by 1, 1 by 9, 2 by 5 and 0.
        int[][] soaks = {{9, 9, 8}, {9, 1, 0}, {1, 9, 0}, {2, 5, 1}, {5, 2, 1}, {3, 3, 0}, {4, 5, 2}, {7, 7, 4}, {0, 9, 0}, {9, 0, 0}};
        for (int[] row : soaks) {
            LateInks y = Kit.made("party 9;party 9;ink age 99 soaks " + row[0] + ";damp spring " + row[1] + ";" + DEED);
            Kit.is("ripens by", y.deed(0, 12), 1 + row[2]);
            y.seasons(1);
            Kit.is("ripe", y.deed(0, 8), 1 + row[2]);
        }
    }

    /** The most that RIPE can come to: 98, and 12 times 40, 1, 8 and spray more; 999 is out of reach. */
    private static void mostRipe() {
        LateInks x = Kit.made("party 9;party 9;ink age 99 soaks 9;spray 100;damp autumn 9;damp spring 0;damp summer 0;damp winter 0;" + DEED);
        Kit.law(x, "ripe 36 if season<1;ripe 3 if season>0 and season<2;ripe 40 if season>1");
        x.seasons(1);
        x.salt(1);
        Kit.is("ripe", x.deed(0, 8), 38);
        x.seasons(1);
        Kit.is("ripe", x.deed(0, 8), 43);
        x.seasons(1);
        deed(x, 0, 43 + 1 + 8 + 40 + 1, -1, 0, 0);
        StringBuilder most = new StringBuilder("ripe 40");
        for (int i = 1; i < 12; i++) {
            most.append(";ripe 40");
        }
        Kit.law(x, most.toString());
        x.seasons(1);
        deed(x, 0, 93 + 1 + 480 + 1, 3, 1, 1);
        x.seasons(9);
        Kit.is("no more behind that", x.deed(0, 8), 575);
    }

    /** KEEPS or more below TIME: it is to be read KEEPS TIMES. */
    private static void fadesJustThen() {
        for (int keeps : new int[] {1, 2, 79}) {
            LateInks x = Kit.made("party 9;party 9;ink age 1 keeps " + keeps + ";" + DEED);
            x.seasons(keeps);
            Kit.is("still to be read", x.reads(), 1);
            Kit.is("rows", x.count(10), 2);
            x.seasons(1);
            deed(x, 0, 1, 0, 2, 1);
            Kit.row(x, 0, keeps, 0, 1, 0);
            x.seasons(9);
            Kit.is("faded once", x.count(10), 3);
        }
        LateInks ever = Kit.made("party 9;party 9;ink age 1 keeps 0;" + DEED);
        for (int i = 0; i < 5; i++) {
            ever.seasons(80);
        }
        Kit.is("kept for ever", ever.reads(), 1);
        LateInks most = Kit.made("party 9;party 9;ink age 1 keeps 99;" + DEED);
        most.seasons(80);
        most.seasons(19);
        Kit.is("99 seasons", most.reads(), 1);
        most.seasons(1);
        Kit.is("and no more", most.reads(), 0);
        // A warmed one counts from its warming on: UP is TIME then.
        LateInks warm = Kit.made("party 9;party 9;ink age 50 keeps 1;" + DEED);
        warm.warm(0, 0);
        Kit.is("warmed", warm.reads(), 1);
        warm.seasons(1);
        Kit.is("up is time, so it stays", warm.reads(), 1);
        warm.seasons(1);
        Kit.is("faded", warm.reads(), 0);
    }

    /** UP is TERM or more below TIME. */
    private static void fallsDueJustThen() {
        for (int term : new int[] {0, 1, 2, 19, 20}) {
            LateInks x = Kit.made("party 9;party 9;ink age 1;" + DEED + " term " + term);
            if (term > 0) {
                Kit.is("not yet", x.seasons(term), 0);
            }
            Kit.is("not yet", x.count(9), 0);
            Kit.is("now", x.seasons(1), 1);
            Kit.row(x, 0, term, 0, 2, 1);
            Kit.is("once", x.seasons(9), 0);
        }
        // It fades ahead of falling due in the same SEASON, and a SEASON later it would have been paid.
        Kit.is("term below keeps", Kit.made("party 9;party 9;ink age 1 keeps 3;" + DEED + " term 2").seasons(9), 1);
        Kit.is("term like keeps", Kit.made("party 9;party 9;ink age 1 keeps 3;" + DEED + " term 3").seasons(9), 0);
    }

    /** Its DEBTOR pays SUM, if it has as much; else it pays all its COINS and is BROKE. */
    private static void paysWithTheLastCoin() {
        int[][] rows = {{5, 5, 0, 2, 5}, {5, 6, 0, 2, 5}, {5, 4, 1, 3, 4}, {5, 0, 1, 3, 0}, {0, 0, 0, 2, 0}, {0, 9, 0, 2, 0}, {1, 0, 1, 3, 0},
            {99, 99, 0, 2, 99}, {99, 98, 1, 3, 98}};
        for (int[] row : rows) {
            LateInks x = Kit.made("party " + row[1] + ";party 7;ink age 1;deed ink 0 from 0 to 1 sum " + row[0]);
            Kit.is("paid", x.seasons(1), 1);
            Kit.is("broke", x.party(0, 1), row[2]);
            Kit.is("the other one is not", x.party(1, 1), 0);
            Kit.is("coins", x.party(0, 0), row[1] - row[4]);
            Kit.is("coins of the other", x.party(1, 0), 7 + row[4]);
            Kit.is("paid either way", x.count(9), 1);
            Kit.row(x, 0, 0, 0, row[3], row[4]);
        }
    }

    /** By numbers: what a DEED brings can be paid by a later one of the same SEASON, not by an earlier one. */
    private static void laterDeedsOfOneSeason() {
        LateInks x = Kit.made("party 0;party 5;party 0;ink age 1;deed ink 0 from 0 to 2 sum 5;deed ink 0 from 1 to 0 sum 5;deed ink 0 from 0 to 2 sum 5");
        Kit.is("all three", x.seasons(1), 3);
        Kit.is("the first was broke", x.broken(), 1);
        Kit.row(x, 2, 0, 0, 3, 0);
        Kit.row(x, 1, 0, 1, 2, 5);
        Kit.row(x, 0, 0, 2, 2, 5);
        Kit.row(x, 3, 0, 2, 0, 0);
        Kit.row(x, 5, 0, 0, 0, 0);
    }

    /** VALID: leaning on one that comes up or fades in the same SEASON, barred by one that does. */
    private static void validInTheSeason() {
        LateInks x = Kit.made("party 9;party 9;ink age 1;ink age 2;ink age 1 keeps 1;deed ink 1 from 0 to 1 sum 1;deed ink 0 from 0 to 1 sum 1 on 0;"
                + "deed ink 2 from 0 to 1 sum 1;deed ink 1 from 0 to 1 sum 1 but 2;deed ink 1 from 0 to 1 sum 1 on 2;deed ink 0 from 0 to 1 sum 1 but 0");
        Kit.is("the one that leans waits, the barred one is not barred yet", x.seasons(1), 2);
        Kit.is("paid", x.count(9), 1 << 2 | 1 << 5);
        Kit.is("valid", x.valid(), 1 << 2 | 1 << 5);
        Kit.is("0 and 1, and 3, whose bar has just faded", x.seasons(1), 3);
        Kit.is("not 4, which leans on one just faded", x.count(9), 1 | 1 << 1 | 1 << 2 | 1 << 3 | 1 << 5);
        Kit.is("valid", x.valid(), 1 | 1 << 1 | 1 << 3);
        Kit.is("deed's valid", x.deed(4, 14), 0);
        Kit.is("deed's valid", x.deed(3, 14), 1);
        Kit.is("deed's valid, barred now", x.deed(5, 14), 0);
    }

    /** DRAW modulo 100 below SPRAY. Behind SEED 1 the first DRAW is 16838, the next 5758, then 10113. */
    private static void sprayBarely() {
        int[][] rows = {{0, 0}, {1, 0}, {38, 0}, {39, 1}, {99, 1}, {100, 1}};
        for (int[] row : rows) {
            LateInks x = Kit.made("party 9;party 9;ink age 99;spray " + row[0] + ";" + DEED);
            x.seasons(1);
            Kit.is("spray " + row[0], x.deed(0, 8), 1 + row[1]);
            x.seasons(2);
            int more = (58 < row[0] ? 1 : 0) + (13 < row[0] ? 1 : 0);
            Kit.is("spray " + row[0], x.deed(0, 8), 3 + row[1] + more);
        }
        LateInks never = Kit.made("party 9;party 9;ink age 99;" + DEED);
        never.seasons(80);
        Kit.is("never with spray 0", never.deed(0, 8), 80);
        LateInks ever = Kit.made("party 9;party 9;ink age 99;spray 100;" + DEED);
        ever.seasons(49);
        Kit.is("ever with spray 100", ever.deed(0, 8), 98);
        // Slowed to 0 it ripens by the spray alone.
        LateInks slow = Kit.made("party 9;party 9;ink age 99;spray 100;" + DEED);
        Kit.law(slow, "slow 40");
        slow.seasons(5);
        Kit.is("by the spray alone", slow.deed(0, 8), 5);
        LateInks two = Kit.made("party 9;party 9;ink age 99;spray 39;" + DEED + ";" + DEED);
        two.seasons(1);
        Kit.is("one draw for all deeds", two.deed(0, 8) * 10 + two.deed(1, 8), 22);
    }

    /** SEED goes round as an int; of it bits 16 to 30 alone are the DRAW; one DRAW a SEASON, with or without DEEDS. */
    private static void draws() {
        for (int start : new int[] {0, 1, -1, MIN, MAX, 12345, -987654321, 1 << 30, 3 << 30}) {
            int seed = start;
            LateInks x = Kit.made("party 9;party 9;ink age 99;spray 50;" + DEED);
            LateInks y = new LateInks();
            x.seed(start);
            y.seed(start);
            int ripe = 0;
            for (int i = 0; i < 40; i++) {
                long wide = (1103515245L * seed + 12345L) & 0xffffffffL;
                seed = (int) wide;
                ripe += wide / 65536 % 32768 % 100 < 50 ? 2 : 1;
            }
            x.seasons(40);
            y.seasons(30);
            y.seasons(10);
            Kit.is("ripe from " + start, x.deed(0, 8), ripe);
            Kit.is("seed from " + start, x.seed(0), seed);
            Kit.is("seed without deeds from " + start, y.seed(0), seed);
        }
    }

    private static LateInks atTime(int time, String... texts) {
        LateInks x = Kit.made("time 999");
        for (String text : texts) {
            Kit.port(x, text);
        }
        while (x.count(5) < time) {
            x.seasons(Math.min(80, time - x.count(5)));
        }
        return x;
    }

    /** TIME 0 to 9999: at the last it stays, and so does the SEASON, winter. */
    private static void lastTimes() {
        LateInks x = atTime(9998, "party 9;party 9;ink age 3 soaks 5;ink age 1 keeps 1;ink age 1;damp winter 9");
        Kit.is("the last but one", x.count(5), 9998);
        x.write(1, 0, 1, 1, 5);
        x.write(2, 0, 1, 1, 1);
        x.seasons(1);
        Kit.is("the last", x.count(5), 9999);
        Kit.is("up", x.deed(0, 9), 9998);
        Kit.is("a season passes at the last, too", x.seasons(1), 1);
        Kit.is("it faded", x.deed(0, 10), 2);
        Kit.row(x, 0, 9999, 1, 2, 1);
        Kit.is("the last", x.count(5), 9999);
        x.write(0, 0, 1, 2, 0);
        x.write(1, 0, 1, 3, 1);
        Kit.is("written at the last", x.deed(2, 7), 9999);
        Kit.is("winter", x.deed(2, 12), 1 + 4);
        Kit.is("comes up and falls due at once", x.seasons(1), 1);
        Kit.is("up at the last", x.deed(2, 9), 9999);
        Kit.is("its time goes by no more", x.seasons(80), 0);
        Kit.is("neither fading nor due", x.deed(3, 10) * 10 + x.deed(3, 11), 10);
        Kit.is("neither due ahead", x.due(3), -1);
        Kit.is("the last", x.count(5), 9999);
        Kit.is("undone", x.undo(), true);
        Kit.is("still the last", x.count(5), 9999);
        LateInks over = atTime(9990);
        over.seasons(80);
        Kit.is("80 more than there are", over.count(5), 9999);
        over.undo();
        Kit.is("undone", over.count(5), 9990);
    }

    // ---- other acts ----

    /** SUM 0 to 99, TERM 0 to 20, the last INK, PARTIES and DEED there can be. */
    private static void mostWritten() {
        LateInks x = Kit.made("party 1;party 2;party 3;party 4;party 5;party 6;ink age 1;ink age 2;ink age 3;ink age 4;ink age 5;ink age 6");
        int[][] rows = {{0, 0, 1, 0, 0}, {5, 5, 4, 99, 20}, {5, 4, 5, 0, 20}, {0, 5, 0, 99, 0}, {1, 2, 3, 1, 1}, {4, 1, 0, 98, 19}, {2, 0, 5, 50, 10},
            {3, 3, 2, 7, 7}};
        for (int d = 0; d < 8; d++) {
            int[] row = rows[d];
            Kit.is("its number", x.write(row[0], row[1], row[2], row[3], row[4]), d);
            for (int what = 0; what < 5; what++) {
                Kit.is("written " + d + " " + what, x.deed(d, what), row[what]);
            }
            Kit.is("leans on none", x.deed(d, 5), -1);
            Kit.is("barred by none", x.deed(d, 6), -1);
            deed(x, d, 0, -1, 0, 0);
            Kit.is("deeds", x.count(2), d + 1);
        }
        Kit.fails("a ninth", Kit.STATE, () -> x.write(0, 0, 1, 0, 0));
        x.burn(7);
        Kit.fails("a ninth, though one is burnt", Kit.STATE, () -> x.write(0, 0, 1, 0, 0));
        x.undo();
        x.undo();
        Kit.is("again the eighth", x.write(0, 0, 1, 0, 0), 7);
    }

    /** With as many COINS as it COSTS, with one fewer, and for nothing. */
    private static void warmingWithJustEnough() {
        for (int coins = 0; coins <= 10; coins++) {
            LateInks x = Kit.made("party 9;party 9;party " + coins + ";ink age 50;salt 2;" + DEED);
            Kit.law(x, "cost 3;ripe 1");
            if (coins < 5) {
                Kit.refuses(x, "fewer", Kit.STATE, () -> x.warm(0, 2));
            } else {
                Kit.is("warmed", x.warm(0, 2), coins - 5);
                Kit.is("coins", x.party(2, 0), coins - 5);
                deed(x, 0, 0, 0, 1, 0);
                Kit.row(x, 0, 0, 0, 0, 0);
                Kit.is("nobody is broke", x.broken(), 0);
                Kit.is("coins are gone", x.count(8), 18 + coins - 5);
            }
        }
        LateInks free = Kit.made("party 0;party 0;ink age 50;salt 0;" + DEED);
        Kit.is("for nothing", free.warm(0, 0), 0);
        LateInks broke = Kit.made("party 0;party 5;ink age 50;ink age 1;deed ink 1 from 0 to 1 sum 9;deed ink 1 from 1 to 0 sum 5;" + DEED);
        broke.seasons(1);
        Kit.is("one who is broke", broke.broken(), 1);
        Kit.is("warms, too", broke.warm(2, 0), 4);
        LateInks dear = Kit.made("party 490;party 489;ink age 50;salt 9;" + DEED + ";" + DEED);
        Kit.law(dear, "cost 40;cost 40;cost 40;cost 40;cost 40;cost 40;cost 40;cost 40;cost 40;cost 40;cost 40;cost 40");
        Kit.is("the most", dear.warm(0, 0), 1);
        Kit.is("the most", dear.warm(1, 1), 0);
    }

    /** Of the next greater blank DEED RIPE is the half, rounded down; of no lesser one, of no second one, of none that is not blank. */
    private static void halvesTheNextBlank() {
        for (int ripe = 0; ripe <= 7; ripe++) {
            LateInks x = Kit.made("party 99;party 99;ink age 50;" + DEED + ";" + DEED + ";" + DEED + ";" + DEED + ";" + DEED);
            if (ripe > 0) {
                x.seasons(ripe);
            }
            x.burn(2);
            x.warm(1, 0);
            int[] due = {ripe, ripe, ripe, ripe / 2, ripe};
            for (int d = 0; d < 5; d++) {
                Kit.is("ripe of " + d, x.deed(d, 8), due[d]);
            }
            x.warm(4, 0);
            Kit.is("the last has no next", x.deed(0, 8) + x.deed(3, 8), ripe + ripe / 2);
            x.warm(0, 1);
            Kit.is("the next of the first", x.deed(3, 8), ripe / 2 / 2);
            x.warm(3, 1);
            Kit.is("all are warmed", x.blank(), 0);
        }
    }

    private static void burnsOnce() {
        LateInks x = Kit.made("party 99;party 99;ink age 50;ink age 1;ink age 1 keeps 1;deed ink 0 from 0 to 1 sum 1;"
                + "deed ink 1 from 0 to 1 sum 1 term 9;deed ink 2 from 0 to 1 sum 1;deed ink 0 from 0 to 1 sum 1");
        x.seasons(2);
        x.warm(3, 0);
        int[] states = {0, 1, 2, 1};
        int[] ups = {-1, 0, 0, 2};
        for (int d = 0; d < 4; d++) {
            int deed = d;
            Kit.is("the state that it had", x.burn(d), states[d]);
            Kit.row(x, 0, 2, d, 4, 0);
            Kit.is("burnt", x.deed(d, 10), 3);
            Kit.is("up stays", x.deed(d, 9), ups[d]);
            Kit.refuses(x, "burnt", Kit.STATE, () -> x.burn(deed));
        }
        Kit.is("none is blank", x.blank(), 0);
        Kit.is("none is read", x.reads(), 0);
        Kit.is("none ripens, fades, falls due", x.seasons(80), 0);
        Kit.is("no row more", x.count(10), 2 + 1 + 1 + 1 + 4);
        for (int d = 0; d < 4; d++) {
            Kit.is("burnt stays burnt", x.deed(d, 10), 3);
        }
    }

    /** 1 to 999 COINS, and all that it has. More than 9999 nobody can have: all PARTIES have 5994 together at most. */
    private static void lendsToTheLast() {
        LateInks x = Kit.made("party 999;party 999;party 999;party 999;party 999;party 999");
        Kit.is("1", x.lend(0, 1, 1), 998);
        Kit.is("one has fewer than 999 now", x.party(1, 0), 1000);
        Kit.refuses(x, "999 of 998", Kit.STATE, () -> x.lend(0, 1, 999));
        Kit.is("998", x.lend(0, 1, 998), 0);
        Kit.refuses(x, "1 of 0", Kit.STATE, () -> x.lend(0, 1, 1));
        Kit.is("999 of 1998", x.lend(1, 0, 999), 999);
        Kit.is("999 of 999", x.lend(1, 0, 999), 0);
        for (int i = 2; i < 6; i++) {
            Kit.is("999", x.lend(i, 0, 999), 0);
        }
        Kit.is("all that there are", x.party(0, 0), 5994);
        Kit.is("all that there are", x.count(8), 5994);
        Kit.is("all in one hand", x.party(0, 2), 100);
        Kit.is("no row", x.count(10), 0);
        Kit.is("acts", x.count(11), 8);
        Kit.is("nobody is broke without coins", x.broken(), 0);
    }

    private static void saltsAndBars() {
        LateInks x = Kit.made("party 9;party 9;ink age 50;" + DEED + ";" + DEED + ";" + DEED);
        Kit.is("was", x.salt(0), 1);
        Kit.is("costs", x.deed(0, 13), 0);
        Kit.is("was", x.salt(9), 0);
        Kit.is("costs", x.deed(0, 13), 9);
        Kit.is("was", x.salt(9), 9);
        Kit.is("told again is an act, too", x.count(11), 3);
        Kit.is("by none, as it was", x.bar(0, -1), -1);
        Kit.is("the greatest lesser", x.bar(2, 1), -1);
        Kit.is("the least", x.bar(2, 0), 1);
        Kit.is("the same", x.bar(2, 0), 0);
        Kit.is("by none", x.bar(2, -1), 0);
        Kit.is("by none again", x.bar(2, -1), -1);
        Kit.is("the least of all", x.bar(1, 0), -1);
        Kit.is("acts", x.count(11), 10);
        LateInks leans = Kit.made("party 9;party 9;ink age 1;" + DEED + ";" + DEED + " on 0");
        Kit.is("by the one on which it leans", leans.bar(1, 0), -1);
        leans.seasons(1);
        Kit.is("never valid", leans.valid(), 1);
    }

    // ---- THE LOG ----

    private static void log() {
        LateInks x = Kit.made("party 9;party 9;ink age 1 keeps 2;" + DEED + ";" + DEED + ";" + DEED);
        for (int ago : new int[] {0, -1, 1, 59, 60, MIN, MAX}) {
            for (int what = 0; what < 4; what++) {
                Kit.is("without a row", x.log(ago, what), -1);
            }
        }
        Kit.is("led", x.led(0, false), 0);
        Kit.is("led", x.led(2, true), -1);
        x.burn(1);
        Kit.row(x, 0, 0, 1, 4, 0);
        Kit.is("one row alone", x.log(1, 0), -1);
        Kit.is("led", x.led(1, false), 1);
        Kit.is("led at 0", x.led(1, true), 0);
        Kit.is("led, another", x.led(0, false), 0);
        Kit.is("led, another", x.led(0, true), -1);
        x.seasons(3);
        Kit.is("rows", x.count(10), 7);
        Kit.row(x, 6, 0, 1, 4, 0);
        for (int ago : new int[] {7, -1, MIN, MAX, 60, 66}) {
            Kit.is("beyond", x.log(ago, 0), -1);
        }
        Kit.is("led", x.led(0, false), 3);
        Kit.is("led: faded at the latest", x.led(0, true), 2);
        Kit.is("led: the burnt one", x.led(1, true), 0);
        x.undo();
        Kit.is("rows undone", x.count(10), 1);
        Kit.is("led undone", x.led(0, true), -1);
        Kit.is("beyond", x.log(1, 0), -1);
    }

    // ---- SEED, acts undone, THE IMAGE ----

    private static void seeds() {
        LateInks x = new LateInks();
        int before = 1;
        for (int n : new int[] {0, -1, MIN, MAX, 7}) {
            Kit.is("seed was", x.seed(n), before);
            before = n;
        }
        Kit.is("seed is", x.seed(1), 7);
        Kit.is("no act", x.count(11), 0);
        x.seasons(1);
        Kit.is("seed has gone on", x.seed(9), 1103527590);
        x.undo();
        Kit.is("as ahead of the act", x.seed(0), 1);
    }

    private static void undoes() {
        LateInks x = new LateInks();
        Kit.is("none", x.undo(), false);
        for (int i = 1; i <= 12; i++) {
            x.salt(i % 10);
            Kit.is("remembered", x.count(11), i);
        }
        x.salt(3);
        Kit.is("12 at most", x.count(11), 12);
        int[] salts = {2, 1, 0, 9, 8, 7, 6, 5, 4, 3, 2, 1};
        for (int i = 0; i < 12; i++) {
            Kit.is("undo", x.undo(), true);
            Kit.is("salt", x.count(6), salts[i]);
            Kit.is("left", x.count(11), 11 - i);
        }
        Kit.is("the 13th is not remembered", x.undo(), false);
        Kit.is("and nothing happens", x.count(6), 1);
        // What is undone makes room, and is not remembered itself.
        for (int i = 0; i < 40; i++) {
            x.salt(5);
            x.salt(6);
            Kit.is("undo", x.undo(), true);
            Kit.is("salt", x.count(6), 5);
        }
        Kit.is("12, and one of them undone", x.count(11), 11);
        x.undo();
        x.salt(8);
        x.undo();
        Kit.is("not the one undone ahead of it", x.count(6), 5);
        Kit.is("left", x.count(11), 10);
        LateInks y = new LateInks();
        y.seasons(80);
        Kit.is("80 seasons are one", y.count(11), 1);
        y.undo();
        Kit.is("all 80", y.count(5), 0);
        y.seasons(3);
        Kit.portFault(y, "salt 3;?");
        Kit.tape(y, "salt 4");
        y.image();
        y.salt(9);
        y.undo();
        Kit.is("the tape is not undone", Kit.tapeLength(y), 6);
        Kit.is("the fault is not undone", y.fault(), 7);
        y.undo();
        Kit.is("undone", y.count(5), 0);
        Kit.is("the image is not undone", y.back(), true);
        Kit.is("the image", y.count(5), 3);
    }

    /** These are acts, each one; all other calls are none. */
    private static void actsAreThese() {
        LateInks x = Kit.made("party 9;party 9;ink age 1;ink age 50;" + DEED + ";deed ink 1 from 0 to 1 sum 1");
        x.seasons(1);
        x.write(0, 0, 1, 0, 0);
        x.warm(1, 0);
        x.burn(1);
        x.lend(0, 1, 1);
        x.salt(1);
        x.bar(1, -1);
        Kit.is("seven acts", x.count(11), 7);
        Kit.held(x);
        x.image();
        x.seed(3);
        x.feed(0, 0, 0, 0, 0);
        x.end(0);
        x.jars(true);
        x.ask();
        x.fault();
        x.ink(0, 3);
        x.damp(3);
        Kit.is("no more", x.count(11), 7);
        for (int i = 0; i < 7; i++) {
            Kit.is("undo", x.undo(), true);
        }
        Kit.is("no more", x.undo(), false);
    }

    private static void images() {
        LateInks x = new LateInks();
        String empty = Kit.sight(x);
        Kit.is("none was kept", x.back(), false);
        x.image();
        Kit.port(x, "party 9;party 9;ink age 1;salt 4;spray 5;damp spring 6;time 7;" + DEED);
        Kit.law(x, "ripe 1");
        x.seasons(2);
        x.seed(5);
        Kit.is("back to nothing", x.back(), true);
        Kit.same("nothing", Kit.sight(x), empty);
        Kit.is("none are remembered", x.count(11), 0);
        Kit.is("none to undo", x.undo(), false);
        Kit.is("back again", x.back(), true);
        // The number of texts goes back, too: 12 may come again.
        for (int i = 1; i <= 11; i++) {
            Kit.port(x, "");
        }
        x.image();
        Kit.is("the 12th", Kit.port(x, "salt 3"), 12);
        Kit.fails("a 13th", Kit.UNSUPPORTED, x::port);
        x.back();
        Kit.is("texts", x.count(3), 11);
        Kit.is("the 12th again", Kit.port(x, "salt 4"), 12);
        x.image();
        x.back();
        Kit.fails("a 13th", Kit.UNSUPPORTED, x::port);
        Kit.is("one image, the latest", x.count(6), 4);
        // The tape and the fault do not go back.
        Kit.lawFault(x, "cost ?");
        Kit.tape(x, "cost 7");
        Kit.is("back", x.back(), true);
        Kit.is("fault", x.fault(), 5);
        Kit.is("no law", x.count(4), -1);
        Kit.is("the tape is read", x.law(), 1);
        // An image kept behind acts leaves them to be undone; it does not change with what is done later.
        x.salt(1);
        x.image();
        x.salt(2);
        x.undo();
        x.undo();
        Kit.is("undone beyond the image", x.count(6), 4);
        Kit.is("back", x.back(), true);
        Kit.is("the image", x.count(6), 1);
        x.back();
        Kit.is("none are remembered", x.undo(), false);
    }

    /** THE LOG of an image is gone back to, though other rows have come in its place since. */
    private static void rowsOfAnImage() {
        LateInks x = Kit.made("party 9;party 9;ink age 50;" + DEED + ";" + DEED + ";" + DEED);
        x.burn(0);
        x.seasons(1);
        x.burn(1);
        x.image();
        for (int i = 0; i < 3; i++) {
            x.undo();
        }
        x.seasons(3);
        x.burn(2);
        x.burn(1);
        x.burn(0);
        Kit.row(x, 2, 3, 2, 4, 0);
        Kit.is("back", x.back(), true);
        Kit.is("rows", x.count(10), 2);
        Kit.row(x, 0, 1, 1, 4, 0);
        Kit.row(x, 1, 0, 0, 4, 0);
        Kit.is("led", x.led(2, true), -1);
        Kit.is("led", x.led(0, true), 0);
        // The same for what is undone.
        x.burn(2);
        x.seasons(2);
        x.undo();
        x.undo();
        x.warm(2, 0);
        x.undo();
        Kit.row(x, 0, 1, 1, 4, 0);
        Kit.is("none beyond", x.log(2, 0), -1);
    }

    /** Things told or written behind a way back are new, whatever had their numbers, now or in seasons ahead. */
    private static void nothingIsLeft() {
        LateInks x = Kit.made("party 9;party 9;ink age 1");
        x.image();
        Kit.port(x, "party 0;ink age 1 keeps 2 soaks 3;deed ink 1 from 2 to 0 sum 9 term 1;deed ink 1 from 2 to 0 sum 9 on 0 but 0");
        Kit.is("broke ahead", x.ruin(true), 2);
        Kit.is("nothing left ahead", x.wealth(2, 80), 0);
        Kit.is("broke in a trial", x.trial(80, true), 4);
        x.seasons(9);
        Kit.is("broke", x.broken(), 4);
        x.ruin(true);
        x.wealth(0, 80);
        x.back();
        Kit.port(x, "party 7;ink age 4;deed ink 1 from 2 to 0 sum 3;deed ink 1 from 2 to 0 sum 3");
        Kit.is("not broke", x.broken(), 0);
        Kit.is("coins", x.party(2, 0), 7);
        Kit.is("keeps", x.ink(1, 1), 0);
        Kit.is("soaks", x.ink(1, 2), 0);
        int[] due = {1, 2, 0, 3, 0, -1, -1, 0, 0, -1, 0, 0};
        for (int d = 0; d < 2; d++) {
            for (int what = 0; what < due.length; what++) {
                Kit.is("deed " + d + " " + what, x.deed(d, what), due[what]);
            }
        }
        x.back();
        for (int d = 0; d < 2; d++) {
            Kit.is("written", x.write(0, 1, 0, 4, 0), d);
            int[] written = {0, 1, 0, 4, 0, -1, -1, 0, 0, -1, 0, 0};
            for (int what = 0; what < written.length; what++) {
                Kit.is("deed " + d + " " + what, x.deed(d, what), written[what]);
            }
        }
    }

    private static void counts() {
        LateInks x = new LateInks();
        for (int what : new int[] {12, 13, -1, -2, MIN, MAX}) {
            Kit.is("another what", x.count(what), -1);
        }
        Kit.is("no law", x.count(4), -1);
        Kit.law(x, "");
        Kit.is("a law without lines", x.count(4), 0);
        LateInks full = Kit.made("party 999;party 999;party 999;party 999;party 999;party 999;ink age 1 keeps 1;ink age 1;ink age 1;ink age 1;ink age 1;ink age 1",
                "salt 9;spray 100;time 999");
        for (int i = 0; i < 8; i++) {
            full.write(0, i % 6, (i + 1) % 6, 9, 0);
        }
        full.seasons(2);
        for (int i = 0; i < 8; i++) {
            full.burn(i);
        }
        int[] due = {6, 6, 8, 2, -1, 1001, 9, 100, 5994, 255, 32, 12};
        for (int what = 0; what < due.length; what++) {
            Kit.is("count " + what, full.count(what), due[what]);
        }
    }
}
