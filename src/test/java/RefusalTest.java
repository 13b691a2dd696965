import java.util.ArrayList;
import java.util.List;

/**
 * Every call that is refused: the exception that the document names, of several the one told first, and that
 * nothing other calls show is changed: neither at once, nor what is undone or gone back to later.
 */
public final class RefusalTest {
    private static final int MIN = Integer.MIN_VALUE;
    private static final int MAX = Integer.MAX_VALUE;
    private static final int BLANK_DEED = 0;
    private static final int READ_DEED = 1;
    private static final int FADED_DEED = 2;
    private static final int BURNT_DEED = 3;

    private final LateInks x;
    private final int[] noParty;
    private final int[] noInk;
    private final int[] noDeed;

    private RefusalTest(LateInks x) {
        this.x = x;
        noParty = noneOf(x.count(0));
        noInk = noneOf(x.count(1));
        noDeed = noneOf(x.count(2));
    }

    public static void main(String[] args) {
        emptyPort();
        onAllCalls(rich());
        onAllCalls(full());
        rememberedStays();
        usedUpTapes();
        Kit.end();
    }

    private static int[] noneOf(int count) {
        return new int[] {-1, -2, count, count + 1, Math.max(count, 6), Math.max(count, 8), 31, 32, 99, MIN, MAX};
    }

    /** DEEDS in each STATE; PARTY 2 is BROKE; an image is kept, acts are remembered, the tape and the fault are not as at first. */
    private static LateInks rich() {
        LateInks x = Kit.made("party 30;party 12;party 1;ink age 60 soaks 3;ink age 1;ink age 1 keeps 1;spray 30",
                "deed ink 0 from 0 to 1 sum 40;deed ink 1 from 2 to 0 sum 9 on 0;deed ink 2 from 1 to 0 sum 3 term 5;"
                + "deed ink 0 from 1 to 2 sum 4 but 1;deed ink 1 from 2 to 1 sum 5 term 1;deed ink 0 from 1 to 0 sum 7 term 20");
        Kit.law(x, "cost 2 if sum>5;ripe 1 if leaning");
        x.image();
        x.seasons(2);
        x.burn(BURNT_DEED);
        x.salt(6);
        Kit.lawFault(x, "cost 1;?");
        Kit.tape(x, "left");
        Kit.is("states", x.deed(BLANK_DEED, 10) * 1000 + x.deed(READ_DEED, 10) * 100 + x.deed(FADED_DEED, 10) * 10 + x.deed(BURNT_DEED, 10), 123);
        Kit.is("broken", x.broken(), 4);
        return x;
    }

    /** As many PARTIES, INKS and DEEDS as there can be, and 12 acts remembered. */
    private static LateInks full() {
        LateInks x = Kit.made("party 5;party 6;party 7;party 8;party 9;party 999;ink age 60;ink age 1;ink age 1 keeps 1;ink age 5;ink age 6;ink age 7",
                "deed ink 0 from 0 to 1 sum 40;deed ink 1 from 2 to 0 sum 9 on 0;deed ink 2 from 1 to 0 sum 3 term 5;"
                + "deed ink 5 from 5 to 4 sum 4");
        x.burn(BURNT_DEED);
        x.seasons(2);
        for (int i = 0; i < 4; i++) {
            x.write(i, i, i + 1, i * 9, i);
        }
        for (int i = 0; i < 12; i++) {
            x.salt(i % 7);
        }
        Kit.is("deeds", x.count(2), 8);
        Kit.is("acts", x.count(11), 12);
        return x;
    }

    /** Without PARTIES, INKS and DEEDS there is no first one either, whatever else is told. */
    private static void emptyPort() {
        LateInks x = new LateInks();
        for (int n : new int[] {0, 1, -1, MIN, MAX}) {
            for (int what : new int[] {0, 1, -1, 99}) {
                Kit.refuses(x, "party", Kit.BOUNDS, () -> x.party(n, what));
                Kit.refuses(x, "ink", Kit.BOUNDS, () -> x.ink(n, what));
                Kit.refuses(x, "deed", Kit.BOUNDS, () -> x.deed(n, what));
                Kit.refuses(x, "write", Kit.BOUNDS, () -> x.write(n, what, n, what, n));
                Kit.refuses(x, "warm", Kit.BOUNDS, () -> x.warm(n, what));
                Kit.refuses(x, "lend", Kit.BOUNDS, () -> x.lend(n, n, what));
                Kit.refuses(x, "bar", Kit.BOUNDS, () -> x.bar(n, what));
                Kit.refuses(x, "wealth", Kit.BOUNDS, () -> x.wealth(n, what));
                Kit.refuses(x, "net", Kit.BOUNDS, () -> x.net(n, what));
                Kit.refuses(x, "worth", Kit.BOUNDS, () -> x.worth(n, what, true));
                Kit.refuses(x, "owes", Kit.BOUNDS, () -> x.owes(n, what));
                Kit.refuses(x, "rests", Kit.BOUNDS, () -> x.rests(n, n, what));
                Kit.refuses(x, "ahead", Kit.BOUNDS, () -> x.ahead(n, what, what));
            }
            Kit.refuses(x, "bar by none", Kit.BOUNDS, () -> x.bar(n, LateInks.NONE));
            Kit.refuses(x, "burn", Kit.BOUNDS, () -> x.burn(n));
            Kit.refuses(x, "when", Kit.BOUNDS, () -> x.when(n));
            Kit.refuses(x, "due", Kit.BOUNDS, () -> x.due(n));
            Kit.refuses(x, "chain", Kit.BOUNDS, () -> x.chain(n));
            Kit.refuses(x, "hangs", Kit.BOUNDS, () -> x.hangs(n));
            Kit.refuses(x, "forged", Kit.BOUNDS, () -> x.forged(n));
            Kit.refuses(x, "ring", Kit.BOUNDS, () -> x.ring(n));
            Kit.refuses(x, "early", Kit.BOUNDS, () -> x.early(n));
            Kit.refuses(x, "led", Kit.BOUNDS, () -> x.led(n, true));
            if (n != LateInks.NONE) {
                Kit.refuses(x, "buyers", Kit.BOUNDS, () -> x.buyers(n));
            }
        }
    }

    private static void onAllCalls(LateInks x) {
        RefusalTest all = new RefusalTest(x);
        all.whats();
        all.acts();
        all.writes();
        all.lends();
        all.bars();
        all.ofDeeds();
        all.ofParties();
        all.numbers();
        all.states();
    }

    /** Promises 7 to 9, 45, 49, 50: another what, and ahead of it no such thing. */
    private void whats() {
        for (int what : new int[] {-1, 7, 8, MIN, MAX}) {
            Kit.refuses(x, "party's what", Kit.ELEMENT, () -> x.party(0, what));
            Kit.refuses(x, "party's what", Kit.ELEMENT, () -> x.party(x.count(0) - 1, what));
        }
        for (int what : new int[] {-1, 4, 5, MIN, MAX}) {
            Kit.refuses(x, "ink's what", Kit.ELEMENT, () -> x.ink(0, what));
            Kit.refuses(x, "log's what", Kit.ELEMENT, () -> x.log(0, what));
            Kit.refuses(x, "log's what without a row", Kit.ELEMENT, () -> x.log(99, what));
            Kit.refuses(x, "log's what below", Kit.ELEMENT, () -> x.log(-1, what));
            Kit.refuses(x, "season", Kit.BOUNDS, () -> x.damp(what));
        }
        for (int what : new int[] {-1, 16, 17, MIN, MAX}) {
            Kit.refuses(x, "deed's what", Kit.ELEMENT, () -> x.deed(0, what));
        }
        for (int what : new int[] {-1, 3, 4, MIN, MAX}) {
            Kit.refuses(x, "ahead's what", Kit.ELEMENT, () -> x.ahead(0, 0, what));
            Kit.refuses(x, "ahead's what", Kit.ELEMENT, () -> x.ahead(x.count(2) - 1, 80, what));
            for (int n : new int[] {-1, 81, MIN, MAX}) {
                Kit.refuses(x, "ahead's number first", Kit.ARGUMENT, () -> x.ahead(0, n, what));
            }
            Kit.refusesAll(x, "ahead, the deed first", Kit.BOUNDS, d -> x.ahead(d, -1, what), noDeed);
            Kit.refusesAll(x, "ahead, the deed first", Kit.BOUNDS, d -> x.ahead(d, 0, what), noDeed);
        }
        for (int what : new int[] {0, -1, 99}) {
            Kit.refusesAll(x, "party", Kit.BOUNDS, p -> x.party(p, what), noParty);
            Kit.refusesAll(x, "ink", Kit.BOUNDS, i -> x.ink(i, what), noInk);
            Kit.refusesAll(x, "deed", Kit.BOUNDS, d -> x.deed(d, what), noDeed);
        }
        Kit.refusesAll(x, "ahead", Kit.BOUNDS, d -> x.ahead(d, 0, 0), noDeed);
        Kit.refusesAll(x, "ahead", Kit.BOUNDS, d -> x.ahead(d, 81, 0), noDeed);
    }

    /** Promises 10, 12, 13, 15. */
    private void acts() {
        Kit.refusesAll(x, "seasons", Kit.ARGUMENT, n -> x.seasons(n), 0, -1, 81, 82, MIN, MAX);
        Kit.refusesAll(x, "salt", Kit.ARGUMENT, n -> x.salt(n), -1, 10, 11, MIN, MAX);
        Kit.refusesAll(x, "warm", Kit.BOUNDS, d -> x.warm(d, 0), noDeed);
        Kit.refusesAll(x, "warm, both are none", Kit.BOUNDS, d -> x.warm(d, d), noDeed);
        Kit.refusesAll(x, "warm by none", Kit.BOUNDS, p -> x.warm(BLANK_DEED, p), noParty);
        Kit.refusesAll(x, "warm by none, though it is not blank", Kit.BOUNDS, p -> x.warm(BURNT_DEED, p), noParty);
        Kit.refusesAll(x, "burn", Kit.BOUNDS, d -> x.burn(d), noDeed);
    }

    /** Promise 11: no such INK or PARTY ahead of one PARTY twice and of wrong numbers. */
    private void writes() {
        Kit.refusesAll(x, "write", Kit.BOUNDS, i -> x.write(i, 0, 1, 1, 1), noInk);
        Kit.refusesAll(x, "write", Kit.BOUNDS, i -> x.write(i, 0, 0, 100, 21), noInk);
        Kit.refusesAll(x, "write", Kit.BOUNDS, p -> x.write(0, p, 1, 1, 1), noParty);
        Kit.refusesAll(x, "write", Kit.BOUNDS, p -> x.write(0, p, p, -1, -1), noParty);
        Kit.refusesAll(x, "write", Kit.BOUNDS, p -> x.write(0, 0, p, 1, 1), noParty);
        Kit.refusesAll(x, "write", Kit.BOUNDS, p -> x.write(0, 0, p, 100, 21), noParty);
        for (int p = 0; p < x.count(0); p++) {
            int party = p;
            Kit.refuses(x, "write, both are one", Kit.ARGUMENT, () -> x.write(0, party, party, 1, 1));
        }
        Kit.refusesAll(x, "write, sum", Kit.ARGUMENT, n -> x.write(0, 0, 1, n, 1), -1, 100, 101, MIN, MAX);
        Kit.refusesAll(x, "write, term", Kit.ARGUMENT, n -> x.write(0, 0, 1, 1, n), -1, 21, 22, MIN, MAX);
    }

    /** Promise 14. */
    private void lends() {
        Kit.refusesAll(x, "lend", Kit.BOUNDS, p -> x.lend(p, 0, 1), noParty);
        Kit.refusesAll(x, "lend", Kit.BOUNDS, p -> x.lend(0, p, 1), noParty);
        Kit.refusesAll(x, "lend, both are one and none", Kit.BOUNDS, p -> x.lend(p, p, 0), noParty);
        Kit.refusesAll(x, "lend, a wrong number, too", Kit.BOUNDS, p -> x.lend(0, p, 1000), noParty);
        for (int p = 0; p < x.count(0); p++) {
            int party = p;
            Kit.refuses(x, "lend, both are one", Kit.ARGUMENT, () -> x.lend(party, party, 1));
            Kit.refuses(x, "lend, both are one, with fewer coins", Kit.ARGUMENT, () -> x.lend(party, party, 999));
        }
        Kit.refusesAll(x, "lend, a number", Kit.ARGUMENT, n -> x.lend(0, 1, n), 0, -1, 1000, 1001, MIN, MAX);
        for (int p = 0; p < x.count(0); p++) {
            int party = p;
            int coins = x.party(p, 0);
            if (coins < 999) {
                Kit.refuses(x, "lend, one coin more than it has", Kit.STATE, () -> x.lend(party, party == 0 ? 1 : 0, coins + 1));
            }
        }
        Kit.refuses(x, "lend, as many as can be", Kit.STATE, () -> x.lend(0, 1, 999));
    }

    /** Promise 16: no such DEED ahead of one of no lesser number. */
    private void bars() {
        int[] by = new int[noDeed.length - 1];
        System.arraycopy(noDeed, 1, by, 0, by.length);
        Kit.refusesAll(x, "bar", Kit.BOUNDS, d -> x.bar(d, 0), noDeed);
        Kit.refusesAll(x, "bar by none", Kit.BOUNDS, d -> x.bar(d, LateInks.NONE), noDeed);
        Kit.refusesAll(x, "bar, by itself", Kit.BOUNDS, d -> x.bar(d, d), noDeed);
        Kit.refusesAll(x, "bar by one that is not there", Kit.BOUNDS, d -> x.bar(2, d), by);
        Kit.refusesAll(x, "bar of the last by one that is not there", Kit.BOUNDS, d -> x.bar(x.count(2) - 1, d), by);
        for (int i = 0; i < x.count(2); i++) {
            for (int j = i; j < x.count(2); j++) {
                int deed = i;
                int other = j;
                Kit.refuses(x, "bar of " + i + " by " + j, Kit.ARGUMENT, () -> x.bar(deed, other));
            }
        }
    }

    /** Promises 20, 21, 24, 25, 31, 38, 39, 41, 48. */
    private void ofDeeds() {
        Kit.refusesAll(x, "when", Kit.BOUNDS, d -> x.when(d), noDeed);
        Kit.refusesAll(x, "due", Kit.BOUNDS, d -> x.due(d), noDeed);
        Kit.refusesAll(x, "chain", Kit.BOUNDS, d -> x.chain(d), noDeed);
        Kit.refusesAll(x, "hangs", Kit.BOUNDS, d -> x.hangs(d), noDeed);
        Kit.refusesAll(x, "forged", Kit.BOUNDS, d -> x.forged(d), noDeed);
        Kit.refusesAll(x, "early", Kit.BOUNDS, d -> x.early(d), noDeed);
        Kit.refusesAll(x, "led", Kit.BOUNDS, d -> x.led(d, false), noDeed);
        Kit.refusesAll(x, "led", Kit.BOUNDS, d -> x.led(d, true), noDeed);
        Kit.refusesAll(x, "rests", Kit.BOUNDS, d -> x.rests(0, 1, d), noDeed);
        Kit.refusesAll(x, "rests, and both are one", Kit.BOUNDS, d -> x.rests(1, 1, d), noDeed);
        for (int d : noDeed) {
            if (d != LateInks.NONE) {
                Kit.refuses(x, "buyers " + d, Kit.BOUNDS, () -> x.buyers(d));
            }
        }
    }

    /** Promises 23, 27, 28, 34, 36, 39. */
    private void ofParties() {
        for (int n : new int[] {0, 80, -1, 81, 1000}) {
            Kit.refusesAll(x, "wealth", Kit.BOUNDS, p -> x.wealth(p, n), noParty);
            Kit.refusesAll(x, "net", Kit.BOUNDS, p -> x.net(p, n), noParty);
            Kit.refusesAll(x, "worth", Kit.BOUNDS, p -> x.worth(p, n, true), noParty);
            Kit.refusesAll(x, "worth", Kit.BOUNDS, p -> x.worth(p, n, false), noParty);
        }
        Kit.refusesAll(x, "ring", Kit.BOUNDS, p -> x.ring(p), noParty);
        Kit.refusesAll(x, "owes", Kit.BOUNDS, p -> x.owes(p, 0), noParty);
        Kit.refusesAll(x, "owes", Kit.BOUNDS, p -> x.owes(0, p), noParty);
        Kit.refusesAll(x, "owes, both are one and none", Kit.BOUNDS, p -> x.owes(p, p), noParty);
        Kit.refusesAll(x, "rests", Kit.BOUNDS, p -> x.rests(p, 0, 0), noParty);
        Kit.refusesAll(x, "rests", Kit.BOUNDS, p -> x.rests(0, p, 0), noParty);
        Kit.refusesAll(x, "rests, both are one and none", Kit.BOUNDS, p -> x.rests(p, p, BURNT_DEED), noParty);
        for (int p = 0; p < x.count(0); p++) {
            int party = p;
            Kit.refuses(x, "owes, both are one", Kit.ARGUMENT, () -> x.owes(party, party));
            Kit.refuses(x, "rests, both are one", Kit.ARGUMENT, () -> x.rests(party, party, BLANK_DEED));
            Kit.refuses(x, "rests, both are one, and it is not blank", Kit.ARGUMENT, () -> x.rests(party, party, BURNT_DEED));
        }
    }

    /** Promises 23, 28, 40, 46, 47. */
    private void numbers() {
        for (int n : new int[] {-1, 81, 82, MIN, MAX}) {
            Kit.refuses(x, "wealth " + n, Kit.ARGUMENT, () -> x.wealth(0, n));
            Kit.refuses(x, "trial " + n, Kit.ARGUMENT, () -> x.trial(n, false));
            Kit.refuses(x, "trial " + n, Kit.ARGUMENT, () -> x.trial(n, true));
            Kit.refuses(x, "span " + n, Kit.ARGUMENT, () -> x.span(n, false));
            Kit.refuses(x, "span " + n, Kit.ARGUMENT, () -> x.span(n, true));
            Kit.refuses(x, "ahead " + n, Kit.ARGUMENT, () -> x.ahead(0, n, 0));
        }
        Kit.refusesAll(x, "worth", Kit.ARGUMENT, c -> x.worth(0, c, true), -1, 1000, 1001, MIN, MAX);
        Kit.refusesAll(x, "worth", Kit.ARGUMENT, c -> x.worth(0, c, false), -1, 1000, 1001, MIN, MAX);
        Kit.refusesAll(x, "odds, seasons", Kit.ARGUMENT, n -> x.odds(n, 0), -1, 7, 8, MIN, MAX);
        Kit.refusesAll(x, "odds, sprays", Kit.ARGUMENT, k -> x.odds(6, k), -1, 7, 8, MIN, MAX);
        Kit.refusesAll(x, "odds, both", Kit.ARGUMENT, n -> x.odds(n, n), -1, 7, 8, MIN, MAX);
    }

    /** Promises 11 to 13 and 31: it cannot be. */
    private void states() {
        if (x.count(2) == 8) {
            Kit.refuses(x, "a ninth deed", Kit.STATE, () -> x.write(0, 0, 1, 1, 1));
            Kit.refuses(x, "a ninth deed of the least", Kit.STATE, () -> x.write(5, 5, 4, 0, 0));
            Kit.refuses(x, "a ninth deed of the most", Kit.STATE, () -> x.write(0, 4, 5, 99, 20));
            Kit.refuses(x, "a ninth deed with a wrong sum", Kit.ARGUMENT, () -> x.write(0, 0, 1, 100, 1));
            Kit.refuses(x, "a ninth deed with a wrong term", Kit.ARGUMENT, () -> x.write(0, 0, 1, 1, 21));
            Kit.refuses(x, "a ninth deed of one party", Kit.ARGUMENT, () -> x.write(0, 1, 1, 1, 1));
            Kit.refuses(x, "a ninth deed of no ink", Kit.BOUNDS, () -> x.write(6, 0, 1, 1, 1));
        } else {
            Kit.refuses(x, "with fewer coins", Kit.STATE, () -> x.warm(BLANK_DEED, 2));
        }
        for (int deed : new int[] {READ_DEED, FADED_DEED, BURNT_DEED}) {
            for (int p = 0; p < x.count(0); p++) {
                int party = p;
                Kit.refuses(x, "not blank", Kit.STATE, () -> x.warm(deed, party));
            }
        }
        Kit.refuses(x, "burnt already", Kit.STATE, () -> x.burn(BURNT_DEED));
        Kit.refuses(x, "blank, so never up", Kit.STATE, () -> x.forged(BLANK_DEED));
        Kit.refuses(x, "burnt, and never up", Kit.STATE, () -> x.forged(BURNT_DEED));
        Kit.is("one that is read came up", x.forged(READ_DEED), false);
    }

    /** What is undone and gone back to behind refused calls is what it would have been without them. */
    private static void rememberedStays() {
        LateInks x = Kit.made("party 40;party 40;ink age 3;ink age 40;spray 20", "deed ink 0 from 0 to 1 sum 4;deed ink 1 from 1 to 0 sum 9");
        x.seasons(1);
        x.image();
        String image = Kit.sight(x);
        List<String> sights = new ArrayList<>();
        for (int i = 0; i < 14; i++) {
            sights.add(Kit.sight(x));
            if (i % 3 == 0) {
                x.seasons(i + 1);
            } else {
                x.lend(i % 2, 1 - i % 2, i);
            }
            Kit.fails("seasons", Kit.ARGUMENT, () -> x.seasons(81));
            Kit.fails("write", Kit.ARGUMENT, () -> x.write(0, 0, 1, 100, 0));
            Kit.fails("write", Kit.BOUNDS, () -> x.write(2, 0, 1, 1, 0));
            if (x.deed(0, 10) != 0) {
                Kit.fails("warm", Kit.STATE, () -> x.warm(0, 0));
            }
            Kit.fails("warm", Kit.BOUNDS, () -> x.warm(0, 2));
            Kit.fails("burn", Kit.BOUNDS, () -> x.burn(2));
            Kit.fails("lend", Kit.ARGUMENT, () -> x.lend(0, 1, 0));
            Kit.fails("lend", Kit.STATE, () -> x.lend(0, 1, 999));
            Kit.fails("salt", Kit.ARGUMENT, () -> x.salt(10));
            Kit.fails("bar", Kit.ARGUMENT, () -> x.bar(0, 1));
            Kit.portFault(x, "salt 3;spray 4;?");
            Kit.lawFault(x, "ripe 3;?");
            Kit.fails("sheets", Kit.ARGUMENT, () -> oddSheet(x));
            Kit.is("acts", x.count(11), Math.min(i + 2, 12));
        }
        for (int i = 13; i >= 2; i--) {
            Kit.is("undo", x.undo(), true);
            Kit.same("undone " + i, Kit.sight(x), sights.get(i));
        }
        Kit.is("12 and no more", x.undo(), false);
        Kit.is("back", x.back(), true);
        Kit.same("the image", Kit.sight(x), image);
    }

    private static void oddSheet(LateInks x) {
        x.feed(0, 0, 0, 0, 0);
        x.end(1);
        x.jars(true);
    }

    /** A call that reads the tape uses it up though it throws, and changes nothing else but the fault of a text. */
    private static void usedUpTapes() {
        LateInks x = rich();
        x.end(0);
        String before = Kit.held(x);
        Runnable[] calls = {x::port, x::law, () -> x.jars(false), () -> x.jars(true), x::ask};
        for (int i = 0; i < calls.length; i++) {
            Kit.portFault(x, "salt 1; ?");
            Kit.tape(x, "a wrong one");
            Kit.fails("tape " + i, Kit.ARGUMENT, calls[i]);
            Kit.is("used up " + i, Kit.tapeLength(x), 0);
            Kit.is("fault " + i, x.fault(), i < 2 ? 0 : 8);
            Kit.same("nothing else " + i, Kit.held(x), before);
        }
    }
}
