/** Promises 7 (SURE, HOPE, BY, FORTUNE) and 27 to 41 at their edges. */
public final class EdgeDealsTest {
    private static final int MIN = Integer.MIN_VALUE;
    private static final int MAX = Integer.MAX_VALUE;
    private static final String DEED = "deed ink 0 from 0 to 1 sum 1";

    public static void main(String[] args) {
        netBits();
        allReadings();
        othersAsNow();
        fortunes();
        bestOfSeveral();
        worthCosts();
        sheetTapes();
        sheetTimes();
        sheetPairs();
        asks();
        forgedByOne();
        apartBySets();
        soonestWithin();
        beyondTheLastTime();
        owesNets();
        clearedNets();
        rings();
        pivots();
        pivotsOfOthers();
        prices();
        sold();
        firstWay();
        rests();
        odds();
        early();
        Kit.end();
    }

    // ---- readings ----

    /** Bits of DEEDS that are not blank, or that there are not, count for nothing. */
    private static void netBits() {
        LateInks x = Kit.made("party 9;party 9;party 9;ink age 50;ink age 1;ink age 1 keeps 1;deed ink 0 from 0 to 1 sum 1;"
                + "deed ink 1 from 0 to 1 sum 2 term 20;deed ink 2 from 0 to 1 sum 4 term 20;deed ink 0 from 0 to 1 sum 8;deed ink 0 from 1 to 2 sum 16");
        x.burn(3);
        x.seasons(2);
        for (int set = 0; set < 256; set++) {
            int due = 2 + (set & 1) - (set & 16);
            for (int more : new int[] {0, 256, MIN, 0x7fffff00, -256}) {
                Kit.is("net", x.net(1, set | more), due);
            }
        }
        Kit.is("nothing", x.net(1, 0), 2);
        Kit.is("all bits", x.net(1, -1), 2 + 1 - 16);
        Kit.is("of the debtor", x.net(0, MAX), -3);
        Kit.is("of another", x.net(2, 17), 16);
        Kit.is("of another", x.net(2, 1), 0);
    }

    /** With no blank DEED there is one READING, with eight there are 256. */
    private static void allReadings() {
        LateInks x = Kit.made("party 9;party 9;party 9;ink age 50");
        int[] sums = {1, 2, 99, 0, 7, 50, 3, 98};
        for (int d = 0; d < 8; d++) {
            x.write(0, d % 2, 1 - d % 2, sums[d], 0);
        }
        int lost = 0;
        int won = 0;
        int gains = 0;
        int losses = 0;
        for (int d = 0; d < 8; d++) {
            boolean pays = x.deed(d, 1) == 0;
            lost -= pays ? x.deed(d, 3) : 0;
            won += pays ? 0 : x.deed(d, 3);
            gains |= pays || sums[d] == 0 ? 0 : 1 << d;
            losses |= pays && sums[d] > 0 ? 1 << d : 0;
        }
        Kit.is("sure", x.party(0, 3), lost);
        Kit.is("hope", x.party(0, 4), won);
        Kit.is("by", x.party(0, 5), gains);
        Kit.is("fortune", x.party(0, 6), (lost + won) * 128 / 256);
        Kit.is("sure of the other", x.party(1, 3), -won);
        Kit.is("hope of the other", x.party(1, 4), -lost);
        Kit.is("by of the other: not the one of nothing", x.party(1, 5), losses);
        for (int what = 3; what <= 6; what++) {
            Kit.is("of one who has nothing to do with it", x.party(2, what), 0);
        }
        for (int d = 0; d < 8; d++) {
            x.burn(d);
        }
        for (int what = 3; what <= 6; what++) {
            Kit.is("all burnt", x.party(0, what), 0);
        }
        LateInks read = Kit.made("party 9;party 9;ink age 1;deed ink 0 from 0 to 1 sum 7 term 20");
        read.seasons(1);
        int[] due = {-7, -7, 0, -7};
        int[] other = {7, 7, 0, 7};
        for (int what = 3; what <= 6; what++) {
            Kit.is("one reading alone", read.party(0, what), due[what - 3]);
            Kit.is("one reading alone", read.party(1, what), other[what - 3]);
        }
    }

    /** Others as now: what is to be read stays so, and what is faded or burnt is to be read in no READING. */
    private static void othersAsNow() {
        LateInks x = Kit.made("party 9;party 9;ink age 50;ink age 1;ink age 1 keeps 1;deed ink 0 from 0 to 1 sum 5;deed ink 2 from 1 to 0 sum 7 term 20;"
                + "deed ink 1 from 1 to 0 sum 0;deed ink 0 from 0 to 1 sum 3 on 2;deed ink 0 from 0 to 1 sum 11 but 2;deed ink 0 from 0 to 1 sum 2 on 1;"
                + "deed ink 0 from 0 to 1 sum 1 but 1");
        x.burn(0);
        x.seasons(2);
        // Of the blank ones 3 and 6 can be VALID, 4 and 5 can't.
        int[] due = {0, 4, 8 | 64, 2};
        int[] other = {-4, 0, 0, -2};
        for (int what = 3; what <= 6; what++) {
            Kit.is("of the creditor " + what, x.party(1, what), due[what - 3]);
            Kit.is("of the debtor " + what, x.party(0, what), other[what - 3]);
        }
        x.salt(0);
        Kit.is("worth", x.worth(1, 999, false), 8 | 64);
        Kit.is("much", x.worth(1, 999, true), 4);
        Kit.is("worth of the other", x.worth(0, 999, false), 0);
    }

    /** Rounded towards 0, on both sides of it. */
    private static void fortunes() {
        for (int sum = 0; sum <= 5; sum++) {
            LateInks x = Kit.made("party 9;party 9;ink age 50;deed ink 0 from 0 to 1 sum " + sum);
            Kit.is("half of it", x.party(1, 6), sum / 2);
            Kit.is("half of it below 0", x.party(0, 6), -(sum / 2));
        }
        // Barred: of four READINGS one brings 3, the others nothing.
        for (int sum = 0; sum <= 9; sum++) {
            LateInks x = Kit.made("party 9;party 9;ink age 50;deed ink 0 from 0 to 1 sum 0;deed ink 0 from 0 to 1 sum " + sum + " but 0");
            Kit.is("a fourth", x.party(1, 6), sum / 4);
            Kit.is("a fourth below 0", x.party(0, 6), -(sum / 4));
        }
    }

    /** BY: of several the least as bits. */
    private static void bestOfSeveral() {
        LateInks x = Kit.made("party 9;party 9;ink age 50;deed ink 0 from 0 to 1 sum 0;deed ink 0 from 0 to 1 sum 5;deed ink 0 from 0 to 1 sum 5 but 1;"
                + "deed ink 0 from 1 to 0 sum 0");
        Kit.is("by the least", x.party(1, 5), 2);
        Kit.is("hope", x.party(1, 4), 5);
        Kit.is("by nothing", x.party(0, 5), 0);
        Kit.is("worth", x.worth(1, 999, false), 2);
        LateInks y = Kit.made("party 9;party 9;ink age 50;salt 0;deed ink 0 from 0 to 1 sum 0;deed ink 0 from 0 to 1 sum 3;deed ink 0 from 0 to 1 sum 3 but 1");
        Kit.is("worth for nothing: the least", y.worth(1, 0, false), 2);
        Kit.is("how much", y.worth(1, 0, true), 3);
    }

    /** C 0 to 999; COSTS that are C just so, and one more; for nothing; worth no more than it costs. */
    private static void worthCosts() {
        LateInks x = Kit.made("party 9;party 9;ink age 50;salt 4;deed ink 0 from 0 to 1 sum 9;deed ink 0 from 0 to 1 sum 4;deed ink 0 from 0 to 1 sum 6;"
                + "deed ink 0 from 0 to 1 sum 3");
        int[][] rows = {{0, 0, 0}, {3, 0, 0}, {4, 1, 5}, {7, 1, 5}, {8, 5, 7}, {9, 5, 7}, {999, 5, 7}};
        for (int[] row : rows) {
            Kit.is("worth with " + row[0], x.worth(1, row[0], false), row[1]);
            Kit.is("much with " + row[0], x.worth(1, row[0], true), row[2]);
        }
        LateInks dear = Kit.made("party 9;party 9;ink age 50;salt 0");
        StringBuilder law = new StringBuilder("cost 39 if sum>98");
        for (int i = 1; i < 3; i++) {
            law.append(";cost 30 if sum>98");
        }
        Kit.law(dear, law.append(";cost 26 if sum<99").toString());
        for (int d = 0; d < 8; d++) {
            dear.write(0, 0, 1, 99, 0);
        }
        // Each costs 99 and brings 99: no more than nothing.
        Kit.is("as much as it costs", dear.worth(1, 999, false), 0);
        Kit.is("as much as it costs", dear.worth(1, 999, true), 0);
        Kit.law(dear, "cost 40;cost 40;cost 18");
        Kit.is("all eight", dear.worth(1, 784, false), 255);
        Kit.is("one coin fewer, the least seven", dear.worth(1, 783, false), 127);
        Kit.is("much", dear.worth(1, 784, true), 8);
        Kit.is("much", dear.worth(1, 783, true), 7);
        Kit.is("of the debtor", dear.worth(0, 999, true), 0);
        dear.seasons(1);
        dear.burn(0);
        Kit.is("burnt ones are not warmed", dear.worth(1, 999, false), 254);
        LateInks none = Kit.made("party 9;party 9;ink age 1;deed ink 0 from 0 to 1 sum 5 term 20");
        none.seasons(1);
        Kit.is("none is blank", none.worth(1, 999, false), 0);
        Kit.is("net as it is", none.worth(1, 0, true), 5);
        Kit.is("net as it is", none.worth(0, 0, true), -5);
    }

    // ---- sheets ----

    private static String bytes(int... rows) {
        StringBuilder out = new StringBuilder();
        for (int b : rows) {
            out.append((char) b);
        }
        return out.toString();
    }

    private static int pairs(LateInks x, int... rows) {
        Kit.tape(x, bytes(rows));
        int pairs = x.jars(false);
        Kit.is("used up", Kit.tapeLength(x), 0);
        return pairs;
    }

    private static int inks(LateInks x, int... rows) {
        Kit.tape(x, bytes(rows));
        return x.jars(true);
    }

    private static int ask(LateInks x, int... rows) {
        Kit.tape(x, bytes(rows));
        int time = x.ask();
        Kit.is("used up", Kit.tapeLength(x), 0);
        return time;
    }

    private static void wrongTape(LateInks x, int... rows) {
        String before = Kit.held(x);
        int fault = x.fault();
        for (int i = 0; i < 3; i++) {
            int call = i;
            Kit.tape(x, bytes(rows));
            Kit.fails("a tape of " + rows.length, Kit.ARGUMENT, () -> sheets(x, call));
            Kit.is("used up", Kit.tapeLength(x), 0);
        }
        Kit.is("fault", x.fault(), fault);
        Kit.same("nothing is changed", Kit.held(x), before);
    }

    private static void sheets(LateInks x, int call) {
        if (call == 2) {
            x.ask();
        } else {
            x.jars(call == 1);
        }
    }

    /** At most 40 bytes, each two a TIME 0 to 60 and 1 or 0; none may be told. */
    private static void sheetTapes() {
        LateInks x = Kit.made("party 1;party 1;ink age 3;" + DEED);
        Kit.is("none", pairs(x), 21);
        Kit.is("one row", pairs(x, 0, 0), 21);
        int[] most = new int[40];
        Kit.is("20 rows", pairs(x, most), 21);
        most[38] = 60;
        most[39] = 1;
        Kit.is("20 rows, the last one counts", pairs(x, most), 21);
        most[39] = 0;
        Kit.is("20 rows, the last one counts", pairs(x, most), 0);
        for (int length : new int[] {1, 3, 39, 41, 42, 43, 60, 399, 400}) {
            wrongTape(x, new int[length]);
        }
        for (int time : new int[] {61, 62, 100, 127, 128, 255}) {
            wrongTape(x, time, 0);
            wrongTape(x, 0, 0, time, 1);
        }
        for (int told : new int[] {2, 3, 48, 49, 127, 128, 255}) {
            wrongTape(x, 0, told);
            wrongTape(x, 0, 0, 60, told);
        }
        for (int at = 0; at < 40; at++) {
            int[] rows = new int[40];
            rows[at] = at % 2 == 0 ? 61 : 2;
            wrongTape(x, rows);
        }
        Kit.is("60 and 1", pairs(x, 60, 1), 21);
        Kit.is("60 and 0", pairs(x, 60, 0), 0);
        Kit.is("0 and 1", pairs(x, 0, 1), 0);
    }

    /** From the TIME behind the SEASON in which RIPE comes to AGE, till KEEPS SEASONS later. */
    private static void sheetTimes() {
        for (int age : new int[] {1, 2, 40}) {
            for (int keeps : new int[] {0, 1, 2, 9}) {
                LateInks x = Kit.made("ink age " + age + " keeps " + keeps);
                for (int time = 0; time <= 60; time++) {
                    int read = 0;
                    for (int written = 0; written <= 20; written++) {
                        int from = written + age;
                        read += time >= from && (keeps == 0 || time < from + keeps) ? 1 : 0;
                    }
                    Kit.is("read at " + time, pairs(x, time, 1), read);
                    Kit.is("not read at " + time, pairs(x, time, 0), 21 - read);
                    Kit.is("inks", inks(x, time, 1), read > 0 ? 1 : 0);
                }
            }
        }
        // As a DEED of this INK comes up and fades in SEASONS without LAW and spray.
        LateInks like = Kit.made("party 9;party 9;ink age 7 keeps 3 soaks 5;damp spring 3;damp summer 3;damp autumn 3;damp winter 3");
        for (int written = 0; written < 8; written++) {
            like.write(0, 0, 1, 0, 0);
            int[] rows = new int[40];
            for (int i = 0; i < 20; i++) {
                rows[i * 2] = written + i;
                rows[i * 2 + 1] = like.ahead(written, i, 1) == 1 ? 1 : 0;
            }
            Kit.is("just the one written then fits", pairs(like, rows), 1);
            for (int i = 1; i < 40; i += 2) {
                rows[i] = 1 - rows[i];
                Kit.is("none fits that and one more", pairs(like, rows), 0);
                rows[i] = 1 - rows[i];
            }
            like.seasons(1);
        }
    }

    /** WRITTEN 0 to 20; INKS without end and up to six. */
    private static void sheetPairs() {
        LateInks x = Kit.made("ink age 1 keeps 1");
        Kit.is("written at 0", pairs(x, 1, 1), 1);
        Kit.is("none earlier", pairs(x, 0, 1), 0);
        Kit.is("written at 20", pairs(x, 21, 1), 1);
        Kit.is("none later", pairs(x, 22, 1), 0);
        Kit.is("two that cannot be both", pairs(x, 21, 1, 21, 0), 0);
        Kit.is("twice the same", pairs(x, 21, 1, 21, 1), 1);
        LateInks six = Kit.made("ink age 1;ink age 1;ink age 40;ink age 41;ink age 60;ink age 61");
        Kit.is("all pairs", pairs(six), 126);
        Kit.is("all inks", inks(six), 63);
        Kit.is("60 can be read", inks(six, 60, 1), 31);
        Kit.is("60 cannot", inks(six, 60, 0), 8 + 16 + 32);
        Kit.is("60 cannot", pairs(six, 60, 0), 1 + 20 + 21);
        Kit.is("at 1", inks(six, 1, 1), 3);
        Kit.is("at 1", pairs(six, 1, 1), 2);
        LateInks kept = Kit.made("ink age 99 keeps 99");
        Kit.is("not within 60", pairs(kept, 60, 0), 21);
        Kit.is("not within 60", pairs(kept, 60, 1), 0);
        // No LAW, no spray, whatever these are; DAMP is as it is now.
        LateInks wet = Kit.made("ink age 5 soaks 5;spray 100;damp spring 9;damp summer 9;damp autumn 9;damp winter 9");
        Kit.law(wet, "ripe 40");
        Kit.is("5 by 5", pairs(wet, 1, 1), 1);
        Kit.port(wet, "damp spring 7");
        Kit.is("4 of 5", pairs(wet, 1, 1), 0);
        Kit.port(wet, "damp spring 8");
        Kit.is("4 and 1 are 5", pairs(wet, 1, 1), 1);
    }

    /** None with fewer than two; of several TIMES the least; TIME 0 to 60. */
    private static void asks() {
        LateInks x = Kit.made("ink age 1 keeps 1");
        // Each of the 21 can be read at one TIME alone, from 1 on.
        Kit.is("the least of those that part one from the others", ask(x), 1);
        Kit.is("two left", ask(x, 1, 0, 2, 0, 3, 0, 4, 0, 5, 0, 6, 0, 7, 0, 8, 0, 9, 0, 10, 0, 11, 0, 12, 0, 13, 0, 14, 0, 15, 0, 16, 0, 17, 0, 18, 0,
                19, 0), 20);
        Kit.is("one left", ask(x, 1, 1), -1);
        Kit.is("none left", ask(x, 1, 1, 2, 1), -1);
        Kit.is("without inks", ask(new LateInks()), -1);
        LateInks late = Kit.made("ink age 60;ink age 61");
        // The first one can be read at 60, if WRITTEN at 0; nothing else can.
        Kit.is("the last time", ask(late), 60);
        LateInks never = Kit.made("ink age 61");
        Kit.is("no time parts them: the least", ask(never), 0);
        LateInks two = Kit.made("ink age 40;ink age 40");
        Kit.is("alike ones", ask(two, 40, 1), 0);
        // At TIME 0 nothing can be read; at 1 just one of two pairs.
        LateInks first = Kit.made("ink age 1 keeps 1;ink age 1 keeps 2");
        Kit.is("two pairs, parted at 2", ask(first, 1, 1), 2);
        Kit.is("two inks", inks(first, 1, 1), 3);
        // WRITTEN at 20 is the last that fits: at 22 one of two can be read; nobody WRITTEN at 21 could be read at 60.
        Kit.is("the last written", ask(first, 20, 0, 21, 1), 22);
        Kit.is("none written later", ask(Kit.made("ink age 61;ink age 39"), 59, 0), 0);
        LateInks half = Kit.made("ink age 1");
        // From 1 to 21 on: at 10 ten can be read and eleven not, at 11 the other way round.
        Kit.is("the least of the middle", ask(half), 10);
        Kit.is("of 20", ask(half, 1, 0), 11);
        Kit.is("of two", ask(half, 19, 0), 20);
        Kit.is("of one", ask(half, 20, 0), -1);
    }

    /** UP and 1 just so, a SEASON sooner, a SEASON later. */
    private static void forgedByOne() {
        for (int at = 0; at <= 8; at++) {
            LateInks x = Kit.made("party 99;party 99;ink age 5;time 3;" + DEED);
            if (at > 0) {
                x.seasons(at);
            }
            if (at < 5) {
                Kit.refuses(x, "not up", Kit.STATE, () -> x.forged(0));
                x.warm(0, 0);
            }
            Kit.is("warmed at " + at, x.forged(0), at < 4);
        }
        LateInks slow = Kit.made("party 99;party 99;ink age 5;" + DEED);
        Kit.law(slow, "slow 1 if ripe<1 and season<1");
        slow.seasons(6);
        Kit.is("a season late by the law", slow.forged(0), true);
        LateInks wet = Kit.made("party 99;party 99;ink age 5;spray 100;" + DEED);
        wet.seasons(5);
        Kit.is("sooner by spray", wet.forged(0), true);
        LateInks faded = Kit.made("party 99;party 99;ink age 5 keeps 1;" + DEED);
        faded.seasons(6);
        Kit.is("faded", faded.deed(0, 10), 2);
        Kit.is("faded, but it came up", faded.forged(0), false);
        faded.burn(0);
        Kit.is("burnt, but it came up", faded.forged(0), false);
        LateInks damp = Kit.made("party 99;party 99;ink age 5 soaks 5;" + DEED);
        damp.seasons(3);
        Kit.is("three times 2", damp.forged(0), false);
        Kit.port(damp, "damp spring 9");
        Kit.is("by DAMP as it is now", damp.forged(0), true);
        LateInks one = Kit.made("party 99;party 99;ink age 1;" + DEED);
        one.warm(0, 0);
        Kit.is("at once, as it should", one.forged(0), false);
        LateInks burnt = Kit.made("party 99;party 99;ink age 1;" + DEED);
        burnt.burn(0);
        Kit.refuses(burnt, "burnt, and never up", Kit.STATE, () -> burnt.forged(0));
    }

    /** The empty set, one SEASON, all four, none; of several the least as bits. */
    private static void apartBySets() {
        Kit.is("one ink", Kit.made("ink age 1 soaks 9").apart(), 0);
        Kit.is("six of like soaks", Kit.made("ink age 1;ink age 2;ink age 3 keeps 1;ink age 4;ink age 5;ink age 6").apart(), 0);
        Kit.is("0 and 9 in any season: the least", Kit.made("ink age 1;ink age 1 soaks 9").apart(), 1);
        Kit.is("0 and 9 in winter", Kit.made("ink age 1;ink age 1 soaks 9;damp spring 1;damp summer 1;damp autumn 1").apart(), 8);
        Kit.is("in none", Kit.made("ink age 1;ink age 1 soaks 9;damp spring 1;damp summer 1;damp autumn 1;damp winter 1").apart(), -1);
        Kit.is("dry", Kit.made("ink age 1;ink age 1 soaks 9;damp spring 0;damp summer 0;damp autumn 0;damp winter 0").apart(), -1);
        Kit.is("alike by rounding", Kit.made("ink age 1 soaks 5;ink age 1 soaks 9").apart(), -1);
        // Every set that can be due: no six INKS need all four SEASONS.
        String[] soaks = {"0 2 4 5 7 9", "0 2 4 5 6 8", "0 2 4 5 6 7"};
        int[][] rows = {{1, 0, 6, 0, 0, 0}, {2, 0, 0, 6, 0, 0}, {3, 1, 2, 5, 0, 0}, {4, 0, 0, 0, 6, 0}, {5, 1, 2, 0, 5, 0}, {6, 1, 0, 2, 5, 0},
            {7, 2, 2, 3, 5, 0}, {8, 0, 0, 0, 0, 6}, {9, 1, 2, 0, 0, 5}, {10, 1, 0, 2, 0, 5}, {11, 2, 2, 3, 0, 5}, {12, 1, 0, 0, 2, 5},
            {13, 2, 2, 0, 3, 5}, {14, 2, 0, 2, 3, 5}, {3, 1, 2, 5, 2, 5}, {6, 1, 0, 2, 5, 2}, {7, 2, 2, 3, 5, 5}, {11, 2, 2, 3, 3, 5}};
        for (int[] row : rows) {
            StringBuilder text = new StringBuilder("damp spring " + row[2] + ";damp summer " + row[3] + ";damp autumn " + row[4] + ";damp winter " + row[5]);
            for (String n : soaks[row[1]].split(" ")) {
                text.append(";ink age 1 soaks ").append(n);
            }
            Kit.is("apart by " + row[0], Kit.made(text.toString()).apart(), row[0]);
        }
        Kit.is("six, and two alike", Kit.made("ink age 1;ink age 1 soaks 9;ink age 1 soaks 9;ink age 1;ink age 1 soaks 5;ink age 1 soaks 5;damp autumn 9")
                .apart(), 4);
    }

    /** Within 80 SEASONS; of several the least. */
    private static void soonestWithin() {
        int[][] rows = {{1, 0, 1}, {2, 0, 2}, {79, 0, 79}, {80, 0, 80}, {81, -1, -1}, {99, -1, -1}};
        for (int[] row : rows) {
            LateInks x = Kit.made("ink age " + row[0]);
            Kit.is("soonest", x.soonest(false), row[1]);
            Kit.is("in", x.soonest(true), row[2]);
        }
        LateInks several = Kit.made("ink age 9;ink age 5;ink age 5;ink age 6;ink age 5;ink age 9");
        Kit.is("the least of several", several.soonest(false), 1);
        Kit.is("in", several.soonest(true), 5);
        LateInks last = Kit.made("ink age 9;ink age 9;ink age 9;ink age 9;ink age 9;ink age 8");
        Kit.is("the last", last.soonest(false), 5);
        LateInks lawful = Kit.made("ink age 9;spray 100");
        Kit.law(lawful, "ripe 8");
        Kit.is("no law, no spray", lawful.soonest(true), 9);
        LateInks winter = Kit.made("ink age 2 soaks 9;damp spring 0;damp summer 0;damp autumn 0;damp winter 2;time 2");
        Kit.is("from autumn on", winter.soonest(true), 2);
        winter.seasons(1);
        Kit.is("from winter on", winter.soonest(true), 1);
    }

    /** The reckoning of JARS has no last TIME: behind 9999 it goes on with 10000, and so does the SEASON. */
    private static void beyondTheLastTime() {
        LateInks x = Kit.made("party 9;party 9;ink age 2;ink age 3;ink age 9 soaks 9;damp spring 9;damp winter 0;time 999");
        for (int left = 8999; left > 0; left -= Math.min(80, left)) {
            x.seasons(Math.min(80, left));
        }
        Kit.is("the last TIME but one", x.count(5), 9998);
        x.write(0, 0, 1, 1, 0);
        x.write(1, 0, 1, 1, 0);
        x.seasons(3);
        Kit.is("at the last TIME", x.deed(0, 9), 9999);
        Kit.is("as it should be", x.forged(0), false);
        Kit.is("at the last TIME, too", x.deed(1, 9), 9999);
        Kit.is("it should be one later", x.forged(1), true);
        Kit.is("the least of several", x.soonest(false), 0);
        Kit.is("in two", x.soonest(true), 2);
        LateInks soaking = Kit.made("ink age 9 soaks 9;damp spring 9;damp winter 0;time 999");
        for (int i = 0; i < 114; i++) {
            soaking.seasons(80);
        }
        Kit.is("the last TIME", soaking.count(5), 9999);
        Kit.is("a winter and a spring", soaking.soonest(true), 2);
    }

    // ---- debts ----

    private static LateInks debts(String lines) {
        LateInks x = Kit.made("party 99;party 99;party 99;party 99;ink age 1", lines);
        x.seasons(1);
        return x;
    }

    private static void owesNets() {
        LateInks even = debts("deed ink 0 from 0 to 1 sum 5 term 9;deed ink 0 from 1 to 0 sum 5 term 9");
        Kit.is("even", even.owes(0, 1), 0);
        Kit.is("even", even.owes(1, 0), 0);
        Kit.is("even", even.cleared(), 0);
        LateInks one = debts("deed ink 0 from 0 to 1 sum 6 term 9;deed ink 0 from 1 to 0 sum 5 term 9");
        Kit.is("one more", one.owes(0, 1), 1);
        Kit.is("0 at least", one.owes(1, 0), 0);
        Kit.is("of others", one.owes(2, 3) + one.owes(0, 3) + one.owes(3, 1), 0);
        one.seasons(9);
        Kit.is("paid", one.owes(0, 1) + one.owes(1, 0), 0);
        LateInks paid = debts("deed ink 0 from 0 to 1 sum 6;deed ink 0 from 2 to 1 sum 5 term 9;deed ink 0 from 3 to 2 sum 9");
        Kit.is("valid, but paid", paid.valid(), 7);
        Kit.is("paid", paid.owes(0, 1) + paid.owes(3, 2), 0);
        Kit.is("not paid", paid.owes(2, 1), 5);
        Kit.is("what is paid is not cleared", paid.cleared(), 5);
        Kit.is("nor does it make a pivot", paid.pivot(), 1);
        StringBuilder lines = new StringBuilder("deed ink 0 from 0 to 1 sum 99 term 9");
        for (int d = 1; d < 8; d++) {
            lines.append(";deed ink 0 from 0 to 1 sum 99 term 9");
        }
        LateInks most = debts(lines.toString());
        Kit.is("the most", most.owes(0, 1), 792);
        Kit.is("the most", most.cleared(), 792);
        LateInks zero = debts("deed ink 0 from 0 to 1 sum 0 term 9");
        Kit.is("of nothing", zero.owes(0, 1), 0);
    }

    /** What it OWES all others together less what all others OWE it, 0 at least. */
    private static void clearedNets() {
        Kit.is("passed on", debts("deed ink 0 from 0 to 1 sum 5 term 9;deed ink 0 from 1 to 2 sum 5 term 9").cleared(), 5);
        Kit.is("passed on, one more", debts("deed ink 0 from 0 to 1 sum 5 term 9;deed ink 0 from 1 to 2 sum 6 term 9").cleared(), 6);
        Kit.is("passed on, one fewer", debts("deed ink 0 from 0 to 1 sum 6 term 9;deed ink 0 from 1 to 2 sum 5 term 9").cleared(), 6);
        Kit.is("round", debts("deed ink 0 from 0 to 1 sum 5 term 9;deed ink 0 from 1 to 2 sum 5 term 9;deed ink 0 from 2 to 0 sum 5 term 9").cleared(), 0);
        Kit.is("two apart", debts("deed ink 0 from 0 to 1 sum 5 term 9;deed ink 0 from 2 to 3 sum 4 term 9").cleared(), 9);
    }

    /** A ring goes over three PARTIES at least: what two OWE one another is netted. */
    private static void rings() {
        LateInks two = debts("deed ink 0 from 0 to 1 sum 5 term 9;deed ink 0 from 1 to 0 sum 4 term 9");
        Kit.is("two", two.ring(0) || two.ring(1), false);
        String three = "deed ink 0 from 0 to 1 sum 5 term 9;deed ink 0 from 1 to 2 sum 5 term 9;deed ink 0 from 2 to 0 sum 1 term 9";
        LateInks ring = debts(three);
        for (int p = 0; p < 4; p++) {
            Kit.is("three", ring.ring(p), p < 3);
        }
        LateInks broken = debts(three + ";deed ink 0 from 0 to 2 sum 1 term 9");
        LateInks turned = debts(three + ";deed ink 0 from 0 to 2 sum 2 term 9");
        for (int p = 0; p < 4; p++) {
            Kit.is("the last debt is evened out", broken.ring(p), false);
            Kit.is("the last debt is turned", turned.ring(p), false);
        }
        LateInks into = debts(three + ";deed ink 0 from 3 to 0 sum 1 term 9");
        Kit.is("one that leads into it", into.ring(3), false);
        LateInks out = debts(three + ";deed ink 0 from 0 to 3 sum 1 term 9");
        Kit.is("one to which it leads", out.ring(3), false);
        Kit.is("those on it", out.ring(0) && out.ring(1) && out.ring(2), true);
        ring.burn(1);
        Kit.is("burnt", ring.ring(0), false);
        LateInks none = debts(three.replace("sum 1", "sum 0"));
        Kit.is("a debt of nothing is none", none.ring(0), false);
        LateInks alone = Kit.made("party 1");
        Kit.is("alone", alone.ring(0), false);
    }

    private static void pivots() {
        Kit.is("one", Kit.made("party 1").pivot(), 0);
        Kit.is("without debts the least", Kit.made("party 1;party 1;party 1").pivot(), 0);
        Kit.is("the last", debts("deed ink 0 from 0 to 3 sum 5 term 9;deed ink 0 from 1 to 3 sum 5 term 9;deed ink 0 from 2 to 3 sum 5 term 9").pivot(), 3);
        Kit.is("one of two", debts("deed ink 0 from 1 to 3 sum 5 term 9").pivot(), 1);
        Kit.is("of several the least", debts("deed ink 0 from 3 to 2 sum 5 term 9").pivot(), 2);
        // Without 1 it is 9 less, for without it what 0 and 2 have to do with it is gone.
        Kit.is("in the middle", debts("deed ink 0 from 0 to 1 sum 9 term 9;deed ink 0 from 1 to 2 sum 9 term 9;deed ink 0 from 0 to 3 sum 1 term 9").pivot(), 1);
    }

    /** The DEEDS taken away count no more; whether others are VALID stays as it is now (a choice: NOTES.md). */
    private static void pivotsOfOthers() {
        LateInks leans = debts("deed ink 0 from 0 to 1 sum 5 term 9;deed ink 0 from 2 to 3 sum 9 term 9 on 0");
        Kit.is("all", leans.cleared(), 14);
        Kit.is("one that leans on what is taken away", leans.pivot(), 2);
        LateInks barred = debts("deed ink 0 from 0 to 1 sum 5 term 9;deed ink 0 from 2 to 3 sum 9 term 9 but 0");
        Kit.is("all", barred.cleared(), 5);
        Kit.is("one that is barred by what is taken away", barred.pivot(), 0);
    }

    // ---- deals ----

    /** SUM less WHEN, 0 at least; 0 without a WHEN, and of one that is not blank. */
    private static void prices() {
        int[][] rows = {{9, 5, 4}, {5, 5, 0}, {4, 5, 0}, {6, 5, 1}, {99, 80, 19}, {99, 81, 0}, {99, 1, 98}, {0, 1, 0}, {1, 1, 0}, {80, 80, 0}, {81, 80, 1}};
        for (int[] row : rows) {
            LateInks x = Kit.made("party 99;party 99;ink age " + row[1] + ";deed ink 0 from 0 to 1 sum " + row[0]);
            Kit.is("price", x.deed(0, 15), row[2]);
            x.warm(0, 0);
            Kit.is("price of one that is read", x.deed(0, 15), 0);
            x.burn(0);
            Kit.is("price of a burnt one", x.deed(0, 15), 0);
        }
    }

    /** COINS of its PRICE at least; each to another PARTY, not to its own ones; none blank, none able. */
    private static void sold() {
        for (int coins = 0; coins <= 6; coins++) {
            LateInks x = Kit.made("party 99;party 99;party " + coins + ";ink age 3;deed ink 0 from 0 to 1 sum 8");
            Kit.is("how much", x.buyers(-1), coins >= 5 ? 5 : 0);
            Kit.is("who", x.buyers(0), coins >= 5 ? 2 : -1);
        }
        LateInks none = Kit.made("party 9;party 9;party 9;ink age 3");
        Kit.is("without deeds", none.buyers(-1), 0);
        LateInks nothing = Kit.made("party 9;party 9;party 9;ink age 3;deed ink 0 from 0 to 1 sum 3");
        Kit.is("for nothing", nothing.buyers(-1), 0);
        Kit.is("for nothing to none", nothing.buyers(0), -1);
        LateInks never = Kit.made("party 9;party 9;party 9;ink age 81;deed ink 0 from 0 to 1 sum 99");
        Kit.is("without a when", never.buyers(-1), 0);
        LateInks states = Kit.made("party 99;party 9;party 9;ink age 3;ink age 1;deed ink 0 from 0 to 1 sum 9;deed ink 1 from 0 to 1 sum 9 term 20");
        states.burn(0);
        states.seasons(1);
        Kit.is("none is blank", states.buyers(-1), 0);
        Kit.is("burnt", states.buyers(0), -1);
        Kit.is("read", states.buyers(1), -1);
        // Eight DEEDS of the first two, and four others: the four dearest are sold.
        LateInks most = Kit.made("party 9;party 9;party 99;party 99;party 99;party 99;ink age 1");
        for (int d = 0; d < 8; d++) {
            most.write(0, d % 2, 1 - d % 2, 10 + d, 0);
        }
        Kit.is("the four dearest", most.buyers(-1), 13 + 14 + 15 + 16);
        int[] due = {-1, -1, -1, -1, 2, 3, 4, 5};
        for (int d = 0; d < 8; d++) {
            Kit.is("buyer of " + d, most.buyers(d), due[d]);
        }
    }

    /** The first such way: DEED by DEED, none being the least, then the PARTIES. */
    private static void firstWay() {
        LateInks x = Kit.made("party 9;party 9;party 9;party 9;ink age 1;deed ink 0 from 0 to 1 sum 5;deed ink 0 from 0 to 1 sum 5");
        Kit.is("the first to the least", x.buyers(0), 2);
        Kit.is("the other to the other", x.buyers(1), 3);
        LateInks none = Kit.made("party 9;party 9;party 9;ink age 1;deed ink 0 from 0 to 1 sum 5;deed ink 0 from 0 to 1 sum 5;deed ink 0 from 1 to 0 sum 5");
        int[] due = {-1, -1, 2};
        for (int d = 0; d < 3; d++) {
            Kit.is("none is the least", none.buyers(d), due[d]);
        }
        none.write(0, 0, 1, 9, 0);
        Kit.is("one more", none.buyers(-1), 8);
        Kit.is("one more", none.buyers(3), 2);
        none.undo();
        Kit.is("as ahead of it", none.buyers(-1), 4);
        Kit.is("as ahead of it", none.buyers(2), 2);
        // PARTY 2 has too few COINS for the dearer one, so it must have the cheaper one.
        LateInks able = Kit.made("party 9;party 9;party 4;party 9;ink age 1;deed ink 0 from 0 to 1 sum 5;deed ink 0 from 0 to 1 sum 9");
        Kit.is("how much", able.buyers(-1), 12);
        Kit.is("the poorer", able.buyers(0), 2);
        Kit.is("the richer", able.buyers(1), 3);
        // PARTY 3 is able to buy the cheaper one alone, so PARTY 2 must not have it.
        LateInks left = Kit.made("party 9;party 9;party 9;party 4;ink age 1;deed ink 0 from 0 to 1 sum 5;deed ink 0 from 0 to 1 sum 9");
        Kit.is("how much", left.buyers(-1), 12);
        Kit.is("not the least who is able", left.buyers(0), 3);
        Kit.is("who is left", left.buyers(1), 2);
        // The creditor of one buys another.
        LateInks own = Kit.made("party 9;party 9;party 9;ink age 1;deed ink 0 from 0 to 1 sum 5;deed ink 0 from 1 to 2 sum 6;deed ink 0 from 2 to 0 sum 7");
        Kit.is("all three", own.buyers(-1), 4 + 5 + 6);
        int[] owners = {2, 0, 1};
        for (int d = 0; d < 3; d++) {
            Kit.is("owner of " + d, own.buyers(d), owners[d]);
        }
    }

    /** Neither would have more: as much as now is enough to stay. */
    private static void rests() {
        // COSTS and SUM.
        int[][] rows = {{0, 0}, {0, 5}, {4, 5}, {5, 5}, {6, 5}, {1, 0}, {1, 1}, {9, 99}, {2, 5}, {3, 2}};
        for (int[] row : rows) {
            LateInks x = Kit.made("party 9;party 9;party 9;party 9;ink age 50;salt " + row[0] + ";deed ink 0 from 0 to 1 sum " + row[1]);
            String what = " at costs of " + row[0] + ", a sum of " + row[1];
            Kit.is("creditor and debtor" + what, x.rests(1, 0, 0), choices(row[0], row[1], 1, -1));
            Kit.is("two others" + what, x.rests(2, 3, 0), choices(row[0], row[1], 0, 0));
            Kit.is("debtor and another" + what, x.rests(0, 3, 0), choices(row[0], row[1], -1, 0));
            Kit.is("another and creditor" + what, x.rests(3, 1, 0), choices(row[0], row[1], 0, 1));
            Kit.is("creditor and another" + what, x.rests(1, 2, 0), choices(row[0], row[1], 1, 0));
        }
        LateInks none = Kit.made("party 9;party 9;ink age 1;ink age 1 keeps 1;ink age 50;salt 1;" + DEED
                + ";deed ink 1 from 0 to 1 sum 1;deed ink 2 from 0 to 1 sum 1;deed ink 2 from 0 to 1 sum 9");
        none.burn(2);
        none.seasons(2);
        for (int d = 0; d < 3; d++) {
            Kit.is("not blank", none.rests(0, 1, d), -1);
        }
        Kit.is("blank: the debtor loses as much either way", none.rests(0, 1, 3), 1 | 4);
        Kit.is("by hand: creditor and debtor", Kit.made("party 1;party 1;ink age 50;salt 4;deed ink 0 from 0 to 1 sum 5").rests(1, 0, 0), 2);
        Kit.is("by hand: as much as it costs", Kit.made("party 1;party 1;ink age 50;salt 5;deed ink 0 from 0 to 1 sum 5").rests(1, 0, 0), 2 | 8);
        Kit.is("by hand: too dear", Kit.made("party 1;party 1;ink age 50;salt 6;deed ink 0 from 0 to 1 sum 5").rests(1, 0, 0), 8);
    }

    /** What DOC.md says of two PARTIES, sign telling what SUM is to each: of the four choices those that rest, as bits. */
    private static int choices(int costs, int sum, int sign, int otherSign) {
        int[] first = {sign * sum - costs / 2, sign * sum - costs, sign * sum, 0};
        int[] other = {otherSign * sum - costs / 2, otherSign * sum, otherSign * sum - costs, 0};
        int set = 0;
        for (int choice = 0; choice < 4; choice++) {
            if (first[choice] >= first[choice ^ 2] && other[choice] >= other[choice ^ 1]) {
                set |= 1 << choice;
            }
        }
        return set;
    }

    /** N and K 0 to 6, SPRAY 0 to 100; in ten thousandths, rounded down. */
    private static void odds() {
        for (int spray : new int[] {0, 1, 50, 99, 100}) {
            LateInks x = Kit.made("spray " + spray);
            for (int n = 0; n <= 6; n++) {
                for (int k = 0; k <= 6; k++) {
                    long good = 0;
                    long all = 1;
                    for (int i = 0; i < n; i++) {
                        all *= 100;
                    }
                    for (int ways = 0; ways < 1 << n; ways++) {
                        long one = Integer.bitCount(ways) >= k ? 1 : 0;
                        for (int i = 0; i < n; i++) {
                            one *= (ways >> i & 1) == 1 ? spray : 100 - spray;
                        }
                        good += one;
                    }
                    Kit.is("odds of " + n + " " + k + " at " + spray, x.odds(n, k), good * 10000 / all);
                }
                Kit.is("none at least is sure", x.odds(n, 0), 10000);
                if (n < 6) {
                    Kit.is("more than there are", x.odds(n, n + 1), 0);
                }
            }
        }
        Kit.is("by hand: one in 64", Kit.made("spray 50").odds(6, 6), 156);
        Kit.is("by hand: never", Kit.made("spray 0").odds(6, 1), 0);
        Kit.is("by hand: ever", Kit.made("spray 100").odds(6, 6), 10000);
        Kit.is("by hand: rounded down to nothing", Kit.made("spray 1").odds(6, 6), 0);
        Kit.is("by hand: rounded down from nearly all", Kit.made("spray 99").odds(6, 1), 9999);
        LateInks x = Kit.made("spray 30");
        x.seed(77);
        int before = x.odds(3, 2);
        x.seasons(5);
        Kit.is("each alike, whatever SEED is", x.odds(3, 2), before);
    }

    /** WHEN less the same with spray: 0 without one of both, or if it is not blank; below 0, if spray makes it later. */
    private static void early() {
        int[][] rows = {{1, 0}, {2, 1}, {3, 1}, {79, 39}, {80, 40}, {81, 0}, {99, 0}};
        for (int[] row : rows) {
            Kit.is("early with age " + row[0], Kit.made("party 9;party 9;ink age " + row[0] + ";" + DEED).early(0), row[1]);
            Kit.is("whatever spray is", Kit.made("party 9;party 9;spray 100;ink age " + row[0] + ";" + DEED).early(0), row[1]);
        }
        LateInks never = Kit.made("party 9;party 9;ink age 9;" + DEED);
        Kit.law(never, "slow 2 if ripe>4 and ripe<6;slow 40 if ripe>5");
        Kit.is("none without spray", never.when(0), -1);
        Kit.is("so it is none sooner", never.early(0), 0);
        LateInks wet = Kit.made("party 9;party 9;ink age 20;" + DEED);
        // With spray it goes past 5 and 7, at which it would ripen by 10 more.
        Kit.law(wet, "ripe 20 if ripe>4 and ripe<6");
        Kit.is("dry, at 5", wet.when(0), 6);
        Kit.is("wet, it is later", wet.early(0), 6 - 10);
        LateInks stuck = Kit.made("party 9;party 9;ink age 20;" + DEED);
        Kit.law(stuck, "ripe 20 if ripe>4 and ripe<6;slow 40 if ripe>7;slow 1 if ripe>16");
        Kit.is("dry, at 5", stuck.when(0), 6);
        Kit.is("wet, by the spray alone", stuck.early(0), 6 - (4 + 12));
        LateInks states = Kit.made("party 9;party 9;ink age 9;ink age 1;ink age 1 keeps 1;" + DEED + ";deed ink 1 from 0 to 1 sum 1;deed ink 2 from 0 to 1 sum 1;" + DEED);
        states.burn(3);
        states.seasons(2);
        Kit.is("blank: 7 and 4", states.early(0), 3);
        for (int d = 1; d < 4; d++) {
            Kit.is("not blank", states.early(d), 0);
        }
        String before = Kit.held(states);
        states.early(0);
        Kit.same("nothing stays", Kit.held(states), before);
    }
}
