/** Promises 10 to 16, 48, 49, 51, 52: acts, THE LOG, SEED, and acts undone. */
public final class ActsTest {
    public static void main(String[] args) {
        seasons();
        fading();
        paying();
        spray();
        lastTime();
        writing();
        warming();
        burning();
        lending();
        salt();
        barring();
        undoing();
        mostRows();
        Kit.end();
    }

    private static void row(LateInks x, int ago, int time, int deed, int kind, int coins) {
        int[] due = {time, deed, kind, coins};
        for (int what = 0; what < 4; what++) {
            Kit.is("log " + ago + " " + what, x.log(ago, what), due[what]);
        }
    }

    private static void seasons() {
        LateInks x = Kit.made("party 9;party 9;ink age 3;ink age 3 soaks 5;damp spring 2;damp summer 0;"
                + "deed ink 0 from 0 to 1 sum 4;deed ink 1 from 1 to 0 sum 2 term 2");
        for (int n : new int[] {0, -1, 81, Integer.MIN_VALUE, Integer.MAX_VALUE}) {
            Kit.fails("seasons " + n, Kit.ARGUMENT, () -> x.seasons(n));
        }
        Kit.is("no act", x.count(11), 0);
        Kit.is("one", x.seasons(1), 0);
        Kit.is("ripe", x.deed(0, 8), 1);
        Kit.is("ripe, soaked", x.deed(1, 8), 2);
        Kit.is("two more", x.seasons(2), 1);
        row(x, 0, 2, 0, 2, 4);
        row(x, 1, 2, 0, 0, 0);
        row(x, 2, 1, 1, 0, 0);
        Kit.is("rows", x.count(10), 3);
        Kit.is("the other, two behind its coming up", x.seasons(1), 1);
        row(x, 0, 3, 1, 2, 2);
        Kit.is("80", x.seasons(80), 0);
        Kit.is("time", x.count(5), 84);
        Kit.is("led", x.led(0, false), 2);
        Kit.is("led's time", x.led(1, true), 3);
        Kit.is("without a row", x.log(4, 0), -1);
        Kit.is("below", x.log(-1, 0), -1);
        Kit.is("least", x.log(Integer.MIN_VALUE, 0), -1);
        Kit.is("most", x.log(Integer.MAX_VALUE, 0), -1);
        Kit.fails("log's what", Kit.ELEMENT, () -> x.log(0, -1));
        Kit.fails("log's what", Kit.ELEMENT, () -> x.log(99, 4));
        Kit.fails("led", Kit.BOUNDS, () -> x.led(2, true));
        Kit.fails("led", Kit.BOUNDS, () -> x.led(-1, false));
        x.write(0, 0, 1, 1, 1);
        Kit.is("led without", x.led(2, true), -1);
        Kit.is("led without", x.led(2, false), 0);
    }

    private static void fading() {
        LateInks x = Kit.made("party 9;party 9;ink age 1 keeps 1;ink age 2 keeps 3;deed ink 0 from 0 to 1 sum 4 term 1;"
                + "deed ink 1 from 0 to 1 sum 1 term 3");
        x.seasons(1);
        Kit.is("to be read", x.reads(), 1);
        x.seasons(1);
        Kit.is("faded ahead of falling due", x.deed(0, 10), 2);
        Kit.is("not paid", x.count(9), 0);
        row(x, 0, 1, 0, 1, 0);
        row(x, 1, 1, 1, 0, 0);
        x.seasons(2);
        Kit.is("kept still", x.deed(1, 10), 1);
        x.seasons(1);
        Kit.is("not any more", x.deed(1, 10), 2);
        row(x, 0, 4, 1, 1, 0);
        Kit.is("never paid", x.seasons(80), 0);
    }

    private static void paying() {
        LateInks x = Kit.made("party 5;party 0;party 1;ink age 1;deed ink 0 from 0 to 1 sum 5;deed ink 0 from 1 to 2 sum 6;"
                + "deed ink 0 from 1 to 0 sum 0;deed ink 0 from 2 to 1 sum 7;deed ink 0 from 0 to 2 sum 1 on 1 but 3");
        Kit.is("paid", x.seasons(1), 4);
        row(x, 0, 0, 3, 3, 6);
        row(x, 1, 0, 2, 2, 0);
        row(x, 2, 0, 1, 3, 5);
        row(x, 3, 0, 0, 2, 5);
        row(x, 4, 0, 4, 0, 0);
        Kit.is("coins 0", x.party(0, 0), 0);
        Kit.is("coins 1", x.party(1, 0), 6);
        Kit.is("coins 2", x.party(2, 0), 0);
        Kit.is("broken", x.broken(), 6);
        Kit.is("paid ones", x.count(9), 15);
        x.burn(3);
        Kit.is("its bar is burnt", x.seasons(1), 1);
        row(x, 0, 1, 4, 3, 0);
        Kit.is("broken", x.broken(), 7);
        x.write(0, 1, 0, 6, 0);
        Kit.is("one who was broke pays in full", x.seasons(1), 1);
        row(x, 0, 2, 5, 2, 6);
        Kit.is("but stays so", x.broken(), 7);
    }

    private static void spray() {
        LateInks x = Kit.made("party 1;party 1;ink age 99;spray 50;deed ink 0 from 0 to 1 sum 1");
        int seed = 12345;
        Kit.is("seed", x.seed(seed), 1);
        int ripe = 0;
        for (int i = 0; i < 40; i++) {
            seed = seed * 1103515245 + 12345;
            ripe += 1 + ((seed >> 16 & 0x7fff) % 100 < 50 ? 1 : 0);
            x.seasons(1);
            Kit.is("ripe", x.deed(0, 8), ripe);
            Kit.is("seed", x.seed(seed), seed);
        }
        LateInks dry = Kit.made("party 1;party 1;ink age 99;deed ink 0 from 0 to 1 sum 1");
        dry.seasons(1);
        Kit.is("drawn without spray, too", dry.seed(7), 1103515245 + 12345);
        Kit.is("none came", dry.deed(0, 8), 1);
    }

    private static void lastTime() {
        LateInks x = Kit.made("party 9;party 9;ink age 2 keeps 1;time 999;damp winter 0");
        for (int i = 0; i < 112; i++) {
            x.seasons(80);
        }
        Kit.is("time", x.count(5), 9959);
        x.seasons(39);
        x.write(0, 0, 1, 1, 1);
        Kit.is("time", x.count(5), 9998);
        x.seasons(1);
        Kit.is("time", x.count(5), 9999);
        x.seasons(3);
        Kit.is("it ends", x.count(5), 9999);
        Kit.is("up at the last", x.deed(0, 9), 9999);
        Kit.is("no time goes by, none fades", x.deed(0, 10), 1);
        Kit.is("none falls due", x.count(9), 0);
    }

    private static void writing() {
        LateInks x = Kit.made("party 1;party 1;ink age 5;time 8");
        Kit.fails("ink", Kit.BOUNDS, () -> x.write(1, 0, 0, 100, 21));
        Kit.fails("ink", Kit.BOUNDS, () -> x.write(-1, 0, 1, 1, 1));
        Kit.fails("from", Kit.BOUNDS, () -> x.write(0, 2, 1, 1, 1));
        Kit.fails("to", Kit.BOUNDS, () -> x.write(0, 1, -1, 1, 1));
        Kit.fails("one", Kit.ARGUMENT, () -> x.write(0, 1, 1, 1, 1));
        Kit.fails("sum", Kit.ARGUMENT, () -> x.write(0, 0, 1, -1, 1));
        Kit.fails("sum", Kit.ARGUMENT, () -> x.write(0, 0, 1, 100, 1));
        Kit.fails("term", Kit.ARGUMENT, () -> x.write(0, 0, 1, 1, -1));
        Kit.fails("term", Kit.ARGUMENT, () -> x.write(0, 0, 1, 1, 21));
        Kit.is("no act", x.count(11), 0);
        Kit.is("written", x.write(0, 1, 0, 99, 20), 0);
        int[] due = {0, 1, 0, 99, 20, -1, -1, 8, 0, -1, 0, 0};
        for (int what = 0; what < due.length; what++) {
            Kit.is("deed " + what, x.deed(0, what), due[what]);
        }
        Kit.is("least", x.write(0, 0, 1, 0, 0), 1);
        for (int i = 2; i < 8; i++) {
            Kit.is("more", x.write(0, 0, 1, 1, 1), i);
        }
        Kit.fails("a ninth", Kit.STATE, () -> x.write(0, 0, 1, 1, 1));
        Kit.fails("a ninth, with a wrong sum", Kit.ARGUMENT, () -> x.write(0, 0, 1, 100, 1));
        Kit.is("deeds", x.count(2), 8);
        x.bar(7, 3);
        x.undo();
        x.undo();
        x.write(0, 0, 1, 1, 1);
        Kit.is("nothing is left of one undone", x.deed(7, 6), -1);
    }

    private static void warming() {
        LateInks x = Kit.made("party 5;party 2;ink age 9;salt 2;deed ink 0 from 0 to 1 sum 4 term 1;"
                + "deed ink 0 from 0 to 1 sum 6;deed ink 0 from 1 to 0 sum 4;deed ink 0 from 1 to 0 sum 4");
        Kit.law(x, "cost 1 if sum>5;cost 1 if ripe>4");
        x.seasons(5);
        x.burn(1);
        Kit.fails("deed", Kit.BOUNDS, () -> x.warm(4, 0));
        Kit.fails("party", Kit.BOUNDS, () -> x.warm(0, 2));
        Kit.fails("party, too", Kit.BOUNDS, () -> x.warm(1, -1));
        Kit.fails("burnt", Kit.STATE, () -> x.warm(1, 0));
        Kit.fails("too dear", Kit.STATE, () -> x.warm(0, 1));
        Kit.is("warmed", x.warm(0, 0), 2);
        row(x, 0, 5, 0, 0, 0);
        Kit.is("to be read", x.reads(), 1);
        Kit.is("up", x.deed(0, 9), 5);
        Kit.is("ripe as it was", x.deed(0, 8), 5);
        Kit.is("the burnt one is passed over", x.deed(1, 8), 5);
        Kit.is("the next is half as ripe", x.deed(2, 8), 2);
        Kit.is("the last is not", x.deed(3, 8), 5);
        Kit.fails("read already", Kit.STATE, () -> x.warm(0, 0));
        Kit.is("with the last coin", x.warm(2, 1), 0);
        Kit.is("the last is half as ripe", x.deed(3, 8), 2);
        Kit.is("falls due", x.seasons(1), 1);
        Kit.is("the other, a season later", x.seasons(1), 1);
        Kit.is("salt", x.salt(0), 2);
        Kit.is("for nothing", x.warm(3, 1), x.party(1, 0));
    }

    private static void burning() {
        LateInks x = Kit.made("party 5;party 2;ink age 1 keeps 1;ink age 9;deed ink 0 from 0 to 1 sum 4 term 9;"
                + "deed ink 1 from 0 to 1 sum 6;deed ink 0 from 1 to 0 sum 1");
        Kit.fails("deed", Kit.BOUNDS, () -> x.burn(3));
        Kit.fails("deed", Kit.BOUNDS, () -> x.burn(-1));
        Kit.is("blank", x.burn(1), 0);
        row(x, 0, 0, 1, 4, 0);
        Kit.fails("burnt", Kit.STATE, () -> x.burn(1));
        x.seasons(1);
        Kit.is("to be read", x.burn(0), 1);
        Kit.is("up stays", x.deed(0, 9), 0);
        x.seasons(1);
        Kit.is("faded", x.burn(2), 2);
        Kit.is("paid stays", x.deed(2, 11), 1);
        Kit.is("none ripens", x.deed(1, 8), 0);
        Kit.is("states", x.deed(2, 10), 3);
    }

    private static void lending() {
        LateInks x = Kit.made("party 999;party 2;party 999");
        Kit.fails("party", Kit.BOUNDS, () -> x.lend(3, 3, 0));
        Kit.fails("party alone", Kit.BOUNDS, () -> x.lend(3, 0, 1));
        Kit.fails("other", Kit.BOUNDS, () -> x.lend(0, -1, 0));
        Kit.fails("one", Kit.ARGUMENT, () -> x.lend(0, 0, 1));
        Kit.fails("none", Kit.ARGUMENT, () -> x.lend(0, 1, 0));
        Kit.fails("too many", Kit.ARGUMENT, () -> x.lend(0, 1, 1000));
        Kit.fails("fewer", Kit.STATE, () -> x.lend(1, 0, 3));
        Kit.is("no act", x.count(11), 0);
        Kit.is("lent", x.lend(1, 0, 2), 0);
        Kit.is("got", x.party(0, 0), 1001);
        Kit.is("lent", x.lend(0, 1, 999), 2);
        Kit.is("lent", x.lend(2, 1, 999), 0);
        Kit.is("got", x.party(1, 0), 1998);
        Kit.is("no row", x.count(10), 0);
    }

    private static void salt() {
        LateInks x = new LateInks();
        Kit.fails("below", Kit.ARGUMENT, () -> x.salt(-1));
        Kit.fails("above", Kit.ARGUMENT, () -> x.salt(10));
        Kit.is("was", x.salt(9), 1);
        Kit.is("was", x.salt(0), 9);
        Kit.is("was", x.salt(0), 0);
        Kit.is("acts", x.count(11), 3);
    }

    private static void barring() {
        LateInks x = Kit.made("party 5;party 2;ink age 1;deed ink 0 from 0 to 1 sum 4;deed ink 0 from 0 to 1 sum 6;"
                + "deed ink 0 from 0 to 1 sum 1 but 0");
        Kit.fails("deed", Kit.BOUNDS, () -> x.bar(3, 0));
        Kit.fails("deed", Kit.BOUNDS, () -> x.bar(-1, -1));
        Kit.fails("other", Kit.BOUNDS, () -> x.bar(1, 3));
        Kit.fails("other", Kit.BOUNDS, () -> x.bar(1, -2));
        Kit.fails("itself", Kit.ARGUMENT, () -> x.bar(1, 1));
        Kit.fails("greater", Kit.ARGUMENT, () -> x.bar(1, 2));
        Kit.is("no act", x.count(11), 0);
        Kit.is("was none", x.bar(1, 0), -1);
        Kit.is("was 0", x.bar(2, 1), 0);
        Kit.is("was 1", x.bar(2, -1), 1);
        Kit.is("is none", x.deed(2, 6), -1);
        Kit.is("is 0", x.deed(1, 6), 0);
        Kit.is("the first by none", x.bar(0, -1), -1);
        x.seasons(1);
        Kit.is("valid", x.valid(), 5);
    }

    private static void undoing() {
        LateInks x = Kit.made("party 50;party 50;ink age 4 keeps 2;spray 30;deed ink 0 from 0 to 1 sum 4;"
                + "deed ink 0 from 1 to 0 sum 6;deed ink 0 from 1 to 0 sum 6");
        String[] sights = new String[8];
        Runnable[] acts = {() -> x.seasons(3), () -> x.write(0, 0, 1, 5, 2), () -> x.warm(3, 0), () -> x.burn(1),
            () -> x.lend(0, 1, 7), () -> x.salt(9), () -> x.bar(2, 0), () -> x.seasons(9)};
        for (int i = 0; i < acts.length; i++) {
            sights[i] = Kit.sight(x);
            acts[i].run();
            Kit.is("acts", x.count(11), i + 1);
        }
        for (int i = acts.length - 1; i >= 0; i--) {
            Kit.is("undo", x.undo(), true);
            Kit.same("undone " + i, Kit.sight(x), sights[i]);
        }
        Kit.is("no more", x.undo(), false);
        for (int i = 0; i < 20; i++) {
            x.salt(i % 10);
        }
        Kit.is("12 are remembered", x.count(11), 12);
        for (int i = 18; i >= 7; i--) {
            Kit.is("undo", x.undo(), true);
            Kit.is("salt", x.count(6), i % 10);
        }
        Kit.is("no 13th", x.undo(), false);
        x.salt(3);
        x.seed(99);
        Kit.tape(x, "tape");
        x.undo();
        Kit.is("the seed, too, is as ahead of the act", x.seed(1), 1);
        Kit.is("the tape is not", x.end(4), true);
        Kit.is("the tape is not", x.end(5), false);
    }

    /** A deed comes up, is paid, fades and is burnt once at most: eight of them make 32 rows, never 60. */
    private static void mostRows() {
        LateInks x = Kit.made("party 50;party 50;ink age 1 keeps 1");
        for (int i = 0; i < 8; i++) {
            x.write(0, 0, 1, 1, 0);
        }
        x.seasons(2);
        Kit.is("rows", x.count(10), 24);
        for (int i = 0; i < 8; i++) {
            x.burn(i);
        }
        Kit.is("rows", x.count(10), 32);
        row(x, 0, 2, 7, 4, 0);
        row(x, 8, 1, 7, 1, 0);
        row(x, 16, 0, 7, 2, 1);
        row(x, 31, 0, 0, 0, 0);
        Kit.is("beyond", x.log(32, 2), -1);
        Kit.is("led", x.led(3, false), 4);
        for (int i = 0; i < 40; i++) {
            x.undo();
            x.burn(7);
        }
        Kit.is("rows undone", x.count(10), 32);
    }
}
