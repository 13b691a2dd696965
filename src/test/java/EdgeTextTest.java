import java.util.function.IntSupplier;
import java.util.function.ToIntFunction;

/**
 * Promises 1 to 6 and the texts of the section Terms, at their edges.
 * In the texts here '^' marks the first wrong byte and is no part of them.
 */
public final class EdgeTextTest {
    private static final int MIN = Integer.MIN_VALUE;
    private static final int MAX = Integer.MAX_VALUE;
    private static final String THINGS = "party 9;party 8;party 7;ink age 5;ink age 6";
    private static final String BASE = THINGS + ";";
    private static final String DEED = "deed ink 0 from 0 to 1 sum 1";

    public static void main(String[] args) {
        newObject();
        feeding();
        fedBytes();
        ending();
        portNumbers();
        deedNumbers();
        deedsThereByThen();
        portWords();
        portBlanks();
        portEnds();
        portCounts();
        texts();
        timeAndDeeds();
        lawNumbers();
        lawWords();
        lawEnds();
        lawCounts();
        lawDepth();
        lawBinding();
        lawSums();
        wholeTape();
        faults();
        nothingStays();
        atOnceBehindIt();
        Kit.end();
    }

    // ---- helpers ----

    private static String unmarked(String text) {
        int mark = text.indexOf('^');
        return mark < 0 ? text : text.substring(0, mark) + text.substring(mark + 1);
    }

    /** Without a mark the text is right. */
    private static void port(String text) {
        LateInks x = new LateInks();
        int due = text.indexOf('^');
        Kit.is("port '" + text + "'", Kit.portFault(x, unmarked(text)), due);
        Kit.is("texts behind '" + text + "'", x.count(3), due < 0 ? 1 : 0);
        Kit.is("used up by '" + text + "'", Kit.tapeLength(x), 0);
    }

    private static void law(String text) {
        LateInks x = new LateInks();
        int due = text.indexOf('^');
        Kit.is("law '" + text + "'", Kit.lawFault(x, unmarked(text)), due);
        Kit.is("a law behind '" + text + "'", x.count(4) != LateInks.NONE, due < 0);
        Kit.is("used up by '" + text + "'", Kit.tapeLength(x), 0);
    }

    private static String digits(int n) {
        return (n < 10 ? "00" : n < 100 ? "0" : "") + n;
    }

    /** The least and the most may be told and are kept, with 3 digits, too; one more or less, 4 digits and no number may not. */
    private static void portNumber(String ahead, int least, int most, String behind, ToIntFunction<LateInks> told) {
        for (int n : new int[] {least, most}) {
            Kit.is(ahead + n, told.applyAsInt(Kit.made(ahead + n + behind)), n);
            Kit.is(ahead + digits(n), told.applyAsInt(Kit.made(ahead + digits(n) + behind)), n);
        }
        wrongNumbers(ahead, least, most, behind, true);
    }

    private static void wrongNumbers(String ahead, int least, int most, String behind, boolean isPort) {
        String[] wrong = {"^" + (most + 1) + behind, "^000" + least + behind, "^0" + digits(most) + behind, "^" + 4294967296L + behind,
            "^-1" + behind, "^+1" + behind, "^x" + behind, "^;" + behind, "^" + (least - 1) + behind, "^", "  ^"};
        for (String rest : wrong) {
            if (isPort) {
                port(ahead + rest);
            } else {
                law(ahead + rest);
            }
        }
    }

    // ---- promises 1 to 3 ----

    private static void newObject() {
        LateInks x = new LateInks();
        int[] due = {0, 0, 0, 0, -1, 0, 1, 0, 0, 0, 0, 0};
        for (int i = 0; i < due.length; i++) {
            Kit.is("count " + i, x.count(i), due[i]);
        }
        for (int season = 0; season < 4; season++) {
            Kit.is("damp " + season, x.damp(season), 2);
        }
        Kit.is("fault ahead of any", x.fault(), -1);
        Kit.is("the tape is empty", Kit.tapeLength(x), 0);
        Kit.is("no row", x.log(0, 0), -1);
        Kit.is("no image", x.back(), false);
        Kit.is("no act", x.undo(), false);
        Kit.is("seed", x.seed(5), 1);
    }

    private static void feeding() {
        LateInks x = new LateInks();
        for (int n = 20; n <= 400; n += 20) {
            Kit.is("feed", x.feed(0, 0, 0, 0, 0), n);
        }
        Kit.is("none beyond 400", x.feed(0, 0, 0, 0, 0), -1);
        Kit.is("it has 400 still", Kit.tapeLength(x), 400);
        // 380 and 20 are 400; 381 and 20 are one too many.
        x.end(380);
        Kit.is("just 400", x.feed(0, 0, 0, 0, 0), 400);
        for (int n : new int[] {381, 382, 399, 400}) {
            LateInks y = new LateInks();
            for (int i = 0; i < 20; i++) {
                y.feed(0x61616161, 0x61616161, 0x61616161, 0x61616161, 0x61616161);
            }
            y.end(n);
            Kit.is("too many behind " + n, y.feed(0, 0, 0, 0, 0), -1);
            Kit.is("none came behind " + n, Kit.tapeLength(y), n);
        }
        Kit.is("nothing else is changed", x.count(3) + x.count(11), 0);
    }

    /** A byte is the lowest 8 bits at its place, whatever the sign of the number: the highest first. */
    private static void fedBytes() {
        LateInks x = new LateInks();
        x.feed(0x70617274, 0x79203920, 0x20202020, 0x20202020, 0x202020ff);
        Kit.fails("the last byte of all", Kit.ARGUMENT, x::port);
        Kit.is("is the 20th", x.fault(), 19);
        x.feed(0xff202020, 0, 0, 0, 0);
        Kit.fails("a first byte of 255", Kit.ARGUMENT, x::port);
        Kit.is("is no blank", x.fault(), 0);
        x.feed(0x20ff2020, 0, 0, 0, 0);
        Kit.fails("a second", Kit.ARGUMENT, x::port);
        Kit.is("is the second", x.fault(), 1);
        x.feed(0x73616c74, 0x20372020, 0x20202020, 0x20202020, 0x20202020);
        Kit.is("five numbers", x.port(), 1);
        Kit.is("salt 7", x.count(6), 7);
        x.feed(0x73616c74, 0x20202020, 0x20202020, 0x20202020, 0x20202020);
        x.feed(0x20202020, 0x20202020, 0x20202020, 0x20202020, 0x20202034);
        Kit.is("behind one another", x.port(), 2);
        Kit.is("salt 4", x.count(6), 4);
    }

    private static void ending() {
        LateInks x = new LateInks();
        Kit.is("0 of 0", x.end(0), true);
        for (int n : new int[] {1, -1, MIN, MAX}) {
            Kit.is("of 0 bytes", x.end(n), false);
        }
        x.feed(0x73616c74, 0x20352020, 0x20202020, 0x20202020, 0x20202020);
        for (int n : new int[] {21, 22, 400, 401, -1, -20, MIN, MAX}) {
            Kit.is("of 20 bytes " + n, x.end(n), false);
            Kit.is("they stay", Kit.tapeLength(x), 20);
        }
        Kit.is("all of them", x.end(20), true);
        Kit.is("the first 6", x.end(6), true);
        Kit.is("no 7th is left", x.end(7), false);
        Kit.is("the first 6 stay", x.port(), 1);
        Kit.is("they are the first", x.count(6), 5);
        x.feed(0, 0, 0, 0, 0);
        Kit.is("none of them", x.end(0), true);
        Kit.is("none is left", x.end(1), false);
        Kit.is("an empty text", x.port(), 2);
    }

    // ---- promise 4: THE PORT ----

    private static void portNumbers() {
        portNumber("party ", 0, 999, "", x -> x.party(0, 0));
        portNumber("party  ", 0, 999, ";party 1", x -> x.party(0, 0));
        portNumber("ink age ", 1, 99, "", x -> x.ink(0, 0));
        portNumber("ink age 7 keeps ", 0, 99, "", x -> x.ink(0, 1));
        portNumber("ink age 7 keeps ", 0, 99, " soaks 3", x -> x.ink(0, 1));
        portNumber("ink age 7 soaks ", 0, 9, "", x -> x.ink(0, 2));
        portNumber("ink age 7 keeps 4 soaks ", 0, 9, "", x -> x.ink(0, 2));
        String[] seasons = {"spring", "summer", "autumn", "winter"};
        for (int i = 0; i < 4; i++) {
            int season = i;
            portNumber("damp " + seasons[i] + " ", 0, 9, "", x -> x.damp(season));
            LateInks x = Kit.made("damp " + seasons[i] + " 7");
            for (int other = 0; other < 4; other++) {
                Kit.is("damp of no other", x.damp(other), other == i ? 7 : 2);
            }
        }
        portNumber("salt ", 0, 9, "", x -> x.count(6));
        portNumber("spray ", 0, 100, "", x -> x.count(7));
        portNumber("time ", 0, 999, "", x -> x.count(5));
        LateInks plain = Kit.made("ink age 7");
        Kit.is("keeps, if not told", plain.ink(0, 1), 0);
        Kit.is("soaks, if not told", plain.ink(0, 2), 0);
    }

    private static void deedNumbers() {
        portNumber(BASE + "deed ink ", 0, 1, " from 0 to 1 sum 1", x -> x.deed(0, 0));
        portNumber(BASE + "deed ink 0 from ", 0, 2, " to 1 sum 1", x -> x.deed(0, 1));
        portNumber(BASE + "deed ink 0 from 1 to ", 0, 2, " sum 1", x -> x.deed(0, 2));
        portNumber(BASE + "deed ink 0 from 0 to 1 sum ", 0, 99, "", x -> x.deed(0, 3));
        portNumber(BASE + DEED + " term ", 0, 20, "", x -> x.deed(0, 4));
        portNumber(BASE + DEED + ";" + DEED + ";" + DEED + " on ", 0, 1, "", x -> x.deed(2, 5));
        portNumber(BASE + DEED + ";" + DEED + ";" + DEED + " but ", 0, 1, "", x -> x.deed(2, 6));
        portNumber(BASE + DEED + ";" + DEED + ";" + DEED + " term 4 on 1 but ", 0, 1, "", x -> x.deed(2, 6));
        port(BASE + "deed ink 0 from 0 to ^0 sum 1");
        port(BASE + "deed ink 0 from 1 to ^001 sum 1");
        port(BASE + "deed ink 0 from 2 to ^2");
        port(BASE + DEED + ";" + DEED + " on 0 but 0");
        LateInks x = Kit.made(BASE + DEED);
        int[] due = {0, 0, 1, 1, 0, -1, -1, 0, 0, -1, 0, 0};
        for (int what = 0; what < due.length; what++) {
            Kit.is("of a deed with nothing more told " + what, x.deed(0, what), due[what]);
        }
    }

    /** An INK, PARTIES, DEEDS that there are by then: not those that come later, nor the DEED itself. */
    private static void deedsThereByThen() {
        port("party 1;party 1;deed ink ^0 from 0 to 1 sum 1;ink age 1");
        port("ink age 1;deed ink 0 from ^0 to 1 sum 1;party 1;party 1");
        port("ink age 1;party 1;deed ink 0 from 0 to ^1 sum 1;party 1");
        port("ink age 1;party 1;deed ink 0 from 0 to ^0 sum 1");
        port(BASE + DEED + " on ^0");
        port(BASE + DEED + " but ^0");
        port(BASE + DEED + ";" + DEED + " on ^1;" + DEED);
        port(BASE + DEED + ";" + DEED + " but ^1;" + DEED);
        port(BASE + DEED + ";" + DEED + " on 0;" + DEED + " on 1 but 1");
        LateInks x = Kit.made(THINGS);
        Kit.is("of earlier texts", Kit.portFault(x, DEED), -1);
        Kit.is("of earlier texts", Kit.portFault(x, "deed ink 1 from 2 to 0 sum 9 on 0 but 0"), -1);
        Kit.is("on", x.deed(1, 5), 0);
        Kit.is("but", x.deed(1, 6), 0);
        Kit.is("not yet", Kit.portFault(x, DEED + " on 2"), DEED.length() + 4);
    }

    private static void portWords() {
        for (String none : new String[] {"part", "partyy", "parties", "Party", "inks", "ripe", "cost", "age", "deeds", "damps", "a", "z", "if"}) {
            port("^" + none + " 1");
            port("salt 1;^" + none + " 1");
        }
        for (String none : new String[] {"winters", "sprin", "Spring", "0", "damp", ";", "("}) {
            port("damp ^" + none + " 1");
        }
        port("ink ^ages 1");
        port("ink ^1");
        port("^inkage 1");
        port("ink age 1 ^keep 1");
        port("ink age 1 soaks 1 ^keeps 1");
        port("ink age 1 keeps 1 ^keeps 1");
        port("ink age 1 soaks 1 ^soaks 1");
        port("ink age 1 ^term 1");
        port("party 1 ^soaks 1");
        port(BASE + "deed ^from 0 to 1 sum 1");
        port(BASE + "deed ink 0 ^to 1");
        port(BASE + "deed ink 0 from 0 ^sum 1");
        port(BASE + "deed ink 0 from 0 to 1 ^term 1");
        port(BASE + DEED + " on ^term 1");
        port(BASE + DEED + ";" + DEED + " on 0 ^term 1");
        port(BASE + DEED + ";" + DEED + " but 0 ^on 0");
        port(BASE + DEED + ";" + DEED + " but 0 ^but 0");
        port(BASE + DEED + ";" + DEED + " on 0 ^on 0");
        port(BASE + DEED + " term 1 ^term 1");
        port(BASE + DEED + " ^sum 1");
        port("party 1 ^party 2");
        port("party 1^,party 2");
        port("party 1^:");
        port("^1");
        port("^(party 1)");
    }

    /** Blanks (32) may be between all, ahead and behind, and nothing else may. */
    private static void portBlanks() {
        port("   party   1   ;   party   2   ;   ink   age   3   keeps   4   soaks   5   ;   damp   spring   1   ");
        port("party1;party2;ink age3keeps4soaks5;damp spring1;deed ink0from0to1sum1term1;deed ink0from0to1sum1term1on0but0");
        for (int sign : new int[] {0, 9, 10, 13, 31, 33, 127, 128, 160, 255}) {
            port("^" + (char) sign);
            port("^" + (char) sign + "party 1");
            port("party^" + (char) sign + "1");
            port("party 1^" + (char) sign);
            port("party 1;^" + (char) sign);
        }
        // The signs next to a, z, 0 and 9 are of no word and no number.
        port("party 1^`");
        port("party 1^{");
        port("party 1^/");
        port("party 1^:");
        port("salt^`1");
        port("salt^{1");
        port("^p arty 1");
        port("^pArty 1");
        port("party^A 1");
        port("party 1^x");
        port("party 12^x");
        port("party 1 ^2");
        port("party 1 ^000");
        port("salt 1^salt 2");
    }

    /** Of a text that ends too early the length is the first wrong byte, blanks behind counted. */
    private static void portEnds() {
        for (String cut : new String[] {"party", "ink", "ink age", "ink age 1 keeps", "ink age 1 soaks", "damp", "damp autumn", "salt", "spray",
            "time", "party 1;", BASE + "deed", BASE + "deed ink", BASE + "deed ink 0", BASE + "deed ink 0 from", BASE + "deed ink 0 from 0",
            BASE + "deed ink 0 from 0 to", BASE + "deed ink 0 from 0 to 1", BASE + "deed ink 0 from 0 to 1 sum", BASE + DEED + " term",
            BASE + DEED + ";" + DEED + " on", BASE + DEED + ";" + DEED + " but"}) {
            port(cut + "^");
            port(cut + "  ^");
            port(cut + " ^;");
        }
        port("");
        port(" ");
        port("^;");
        port("party 1;^;party 1");
    }

    private static String times(int n, String line) {
        StringBuilder out = new StringBuilder(line);
        for (int i = 1; i < n; i++) {
            out.append(';').append(line);
        }
        return out.toString();
    }

    /** Of a LINE, a PARTY, an INK, a DEED too many the first word is wrong; of the last that may be nothing is. */
    private static void portCounts() {
        String most = times(14, "salt 1");
        port(most);
        port(most + ";^");
        port(most + " ; ^salt 1");
        port(most + ";^party");
        port(most + ";^word");
        port(most + ";^7");
        port(times(6, "party 1"));
        port(times(6, "party 1") + "; ^party 1");
        port(times(6, "party 1") + ";^party x");
        port(times(6, "ink age 1"));
        port(times(6, "ink age 1") + "; ^ink age 1");
        port(times(6, "ink age 1") + ";^ink ages");
        LateInks x = Kit.made(times(6, "party 1") + ";" + times(6, "ink age 1"));
        Kit.is("a 7th party of a later text", Kit.portFault(x, " party 1"), 1);
        Kit.is("a 7th ink of a later text", Kit.portFault(x, "ink age 1"), 0);
        String deed = "deed ink 5 from 5 to 4 sum 1";
        Kit.is("eight deeds", Kit.portFault(x, times(8, deed)), -1);
        Kit.is("eight deeds", x.count(2), 8);
        Kit.is("no 9th", Kit.portFault(x, "salt 3; " + deed), 8);
        Kit.is("no 9th, whatever it is", Kit.portFault(x, "deed 9"), 0);
        LateInks y = Kit.made(times(6, "party 1") + ";" + times(6, "ink age 1"));
        Kit.is("no 9th of one text", Kit.portFault(y, times(9, deed)), times(8, deed).length() + 1);
        Kit.is("none of these stays", y.count(2), 0);
    }

    /** At most 12 texts: an empty one is one, a wrong one is none; a wrong one is refused for that first. */
    private static void texts() {
        LateInks x = new LateInks();
        for (int n = 1; n <= 12; n++) {
            Kit.is("text " + n, Kit.port(x, n % 2 == 0 ? "" : "salt " + n % 10), n);
            Kit.is("a wrong one is none", Kit.portFault(x, "x"), 0);
            Kit.is("texts", x.count(3), n);
        }
        String before = Kit.held(x);
        Kit.tape(x, "party 1");
        Kit.fails("a 13th", Kit.UNSUPPORTED, x::port);
        Kit.is("its tape is used up", Kit.tapeLength(x), 0);
        Kit.is("it was right", x.fault(), -1);
        Kit.fails("an empty 13th", Kit.UNSUPPORTED, x::port);
        Kit.tape(x, "salt x");
        Kit.fails("a wrong 13th", Kit.ARGUMENT, x::port);
        Kit.is("its fault", x.fault(), 5);
        Kit.is("its tape is used up", Kit.tapeLength(x), 0);
        Kit.fails("a right one", Kit.UNSUPPORTED, x::port);
        Kit.is("it, too, is read", x.fault(), -1);
        Kit.same("nothing is changed", Kit.held(x), before);
        Kit.is("laws are not counted", Kit.law(x, "ripe 1"), 1);
    }

    /** time: no DEED may be there yet, else it is wrong at the word; a DEED is WRITTEN at TIME by then. */
    private static void timeAndDeeds() {
        port(BASE + DEED + "; ^time 1");
        port(BASE + DEED + ";^time x");
        port(BASE + DEED + ";^time");
        port(BASE + "time 4;time 5;" + DEED + ";damp spring 1");
        LateInks x = Kit.made(BASE + "time 77;" + DEED);
        Kit.is("written", x.deed(0, 7), 77);
        Kit.is("a deed of an earlier text", Kit.portFault(x, "salt 1;time 5"), 7);
        Kit.is("time stays", x.count(5), 77);
        x.seasons(3);
        Kit.port(x, DEED);
        Kit.is("written later", x.deed(1, 7), 80);
        x.write(0, 0, 1, 1, 1);
        Kit.is("written by a call", x.deed(2, 7), 80);
        LateInks back = new LateInks();
        back.seasons(9);
        Kit.port(back, "time 0");
        Kit.is("time may go back", back.count(5), 0);
        LateInks one = Kit.made(THINGS);
        one.write(0, 0, 1, 1, 1);
        Kit.is("a deed of a call", Kit.portFault(one, "time 5"), 0);
        one.undo();
        Kit.is("undone", Kit.portFault(one, "time 5"), -1);
    }

    // ---- promise 5: THE LAW ----

    private static LateInks inked() {
        return Kit.made("party 9;party 9;ink age 99;salt 0;" + DEED);
    }

    private static void lawNumber(String ahead, String behind, int first, int sign, int what) {
        for (int n : new int[] {0, 1, 39, 40}) {
            for (String told : new String[] {"" + n, digits(n)}) {
                LateInks x = inked();
                Kit.law(x, ahead + told + behind);
                Kit.is(ahead + told + behind, x.deed(0, what), first + sign * n);
            }
        }
        wrongNumbers(ahead, 0, 40, behind, false);
    }

    private static void lawNumbers() {
        lawNumber("cost ", "", 0, 1, 13);
        lawNumber("cost  ", " if 1<2", 0, 1, 13);
        lawNumber("ripe ", "", 1, 1, 12);
        lawNumber("ripe 40;slow ", "", 41, -1, 12);
        for (int n : new int[] {0, 1, 998, 999}) {
            LateInks x = inked();
            Kit.law(x, "cost 1 if " + n + ">998;cost 2 if 1>" + n + ";cost 4 if " + digits(n) + "+0 < 999");
            Kit.is("numbers of a sum " + n, x.deed(0, 13), (n > 998 ? 1 : 0) + (n < 1 ? 2 : 0) + (n < 999 ? 4 : 0));
        }
        wrongNumbers("cost 1 if ", 0, 999, "<1", false);
        wrongNumbers("cost 1 if 1<", 0, 999, "", false);
        wrongNumbers("cost 1 if 1+", 0, 999, ">1", false);
        LateInks x = inked();
        Kit.law(x, "slow 1");
        Kit.is("1 less 1", x.deed(0, 12), 0);
        Kit.law(x, "slow 2");
        Kit.is("0 at least", x.deed(0, 12), 0);
        Kit.law(x, times(12, "slow 40"));
        Kit.is("0 at least", x.deed(0, 12), 0);
        Kit.law(x, times(12, "ripe 40"));
        Kit.is("the most", x.deed(0, 12), 481);
        Kit.law(x, times(12, "cost 40"));
        Kit.is("the most", x.deed(0, 13), 480);
    }

    private static void lawWords() {
        for (String none : new String[] {"rip", "ripes", "Ripe", "party", "if", "leaning", "costs", "slows", "7", ";", "("}) {
            law("^" + none + " 1");
            law("ripe 1;^" + none + " 1");
        }
        for (String none : new String[] {"and", "or", "if", "lean", "leanings", "party", "coins", "time", "age", "Sum", "<", ">", "+", ")", ";"}) {
            law("ripe 1 if ^" + none);
            law("ripe 1 if not ^" + none);
            law("ripe 1 if ( ^" + none);
            law("ripe 1 if leaning and ^" + none);
            law("ripe 1 if leaning or ^" + none);
        }
        for (String none : new String[] {"and", "not", "leaning", "barred", "(", ")", "<", "+", ";", "term"}) {
            law("ripe 1 if sum < ^" + none);
            law("ripe 1 if sum + ^" + none);
            law("ripe 1 if sum > 1 + ^" + none);
        }
        law("ripe 1 ^iff 1<2");
        law("ripe 1 ^leaning");
        law("ripe 1 ^1<2");
        law("ripe 1 if sum ^= 1");
        law("ripe 1 if sum <^= 1");
        law("ripe 1 if sum < 1 ^> 2");
        law("ripe 1 if sum ^and 1 < 2");
        law("ripe 1 if leaning ^+ 1 < 2");
        law("ripe 1 if leaning ^not barred");
        law("ripe 1 if (sum ^) < 1");
        law("ripe 1 if (sum < 1^");
        law("ripe 1 if (sum < 1 ^;ripe 1");
        law("ripe 1 if sum < 1^)");
        law("ripe 1 if (sum < 1)^)");
        law("ripe 1 if sum ^- 1 < 2");
        law("ripe1if deed+ink+sum+ripe+season+damp+salt>7or leaning and not barred");
        law("   ripe   1   if   (   1   <   2   )   ;   slow   2   ");
        for (int sign : new int[] {0, 9, 10, 31, 33, 128, 255}) {
            law("^" + (char) sign);
            law("ripe 1^" + (char) sign);
            law("ripe 1 if^" + (char) sign + "1<2");
            law("ripe 1 if 1<^" + (char) sign + "2");
        }
    }

    private static void lawEnds() {
        for (String cut : new String[] {"ripe", "slow", "cost", "ripe 1;", "ripe 1 if", "ripe 1 if not", "ripe 1 if (", "ripe 1 if sum", "ripe 1 if 7",
            "ripe 1 if sum +", "ripe 1 if sum <", "ripe 1 if sum >", "ripe 1 if 1 < 2 +", "ripe 1 if leaning and", "ripe 1 if leaning or",
            "ripe 1 if (leaning", "ripe 1 if (1 < 2"}) {
            law(cut + "^");
            law(cut + "   ^");
        }
        LateInks x = inked();
        Kit.is("no law", x.count(4), -1);
        Kit.is("an empty text", Kit.law(x, ""), 0);
        Kit.is("is a law without lines", x.count(4), 0);
        Kit.law(x, "ripe 1");
        Kit.is("blanks alone", Kit.law(x, "    "), 0);
        Kit.is("are one, too", x.count(4), 0);
        Kit.is("in place of the one before", x.deed(0, 12), 1);
    }

    private static void lawCounts() {
        String most = times(12, "cost 1");
        law(most);
        law(most + ";^");
        law(most + " ; ^cost 1");
        law(most + ";^cost");
        law(most + ";^word");
        LateInks x = inked();
        Kit.is("one", Kit.law(x, "cost 3"), 1);
        Kit.is("12", Kit.law(x, most), 12);
        Kit.is("all 12 hold", x.deed(0, 13), 12);
        Kit.is("12", x.count(4), 12);
        for (int i = 0; i < 20; i++) {
            Kit.is("laws are told without end", Kit.law(x, "cost " + i), 1);
            Kit.is("the latest holds", x.deed(0, 13), i);
        }
    }

    /** ( and not within one another at most 6 deep: the 7th one is wrong, and they are counted together. */
    private static void lawDepth() {
        law("ripe 1 if ((((((leaning))))))");
        law("ripe 1 if ((((((^(leaning)))))))");
        law("ripe 1 if not not not not not not leaning");
        law("ripe 1 if not not not not not not ^not leaning");
        law("ripe 1 if not (not (not (leaning)))");
        law("ripe 1 if not (not (not (^(leaning))))");
        law("ripe 1 if not (not (not (^not leaning)))");
        law("ripe 1 if ((((((1<2^");
        law("ripe 1 if ((((((^((((");
        law("ripe 1 if not not not not not not ^(1<2)");
        // Behind one another they are not within one another.
        law("ripe 1 if not not not not not not leaning and not not not not not not barred or ((((((1<2))))))");
        law("ripe 1 if (((((leaning) and (barred)))) or (((((1<2)))))) and not leaning;ripe 1 if ((((((1<2))))))");
        law("ripe 1 if ((((((1<2)) or ((^(1<2)))))))");
        LateInks x = inked();
        Kit.law(x, "cost 1 if not not not not not not 1<2;cost 2 if ((((((1<2))))));cost 4 if not(not(not(1<2)));cost 8 if not(not(not(2<1)))");
        Kit.is("all six count", x.deed(0, 13), 1 + 2 + 8);
        Kit.law(x, "cost 1 if 2<1 or 1<2 and (2<1 or 1<2 and (2<1 or 1<2 and (2<1 or 1<2 and (2<1 or 1<2 and (2<1 or 1<2 and "
                + "(2<1 or 1<2 and 1+1+1<1+1+1+1))))))");
        Kit.is("the deepest that waits for all others", x.deed(0, 13), 1);
        Kit.law(x, "cost 1 if 2<1 or 1<2 and (2<1 or 1<2 and (2<1 or 1<2 and (2<1 or 1<2 and (2<1 or 1<2 and (2<1 or 1<2 and "
                + "(2<1 or 1<2 and 1+1+1<1+1+1))))))");
        Kit.is("the deepest that does not hold", x.deed(0, 13), 0);
    }

    private static int cost(LateInks x, String condition) {
        Kit.law(x, "cost 1 if " + condition);
        return x.deed(0, 13);
    }

    /** not binds one ATOM, and binds ahead of or. */
    private static void lawBinding() {
        LateInks x = inked();
        String yes = "1<2";
        String no = "2<1";
        for (int bits = 0; bits < 8; bits++) {
            boolean a = (bits & 1) != 0;
            boolean b = (bits & 2) != 0;
            boolean c = (bits & 4) != 0;
            String p = a ? yes : no;
            String q = b ? yes : no;
            String r = c ? yes : no;
            Kit.is("and, or " + bits, cost(x, p + " and " + q + " or " + r), a && b || c ? 1 : 0);
            Kit.is("or, and " + bits, cost(x, p + " or " + q + " and " + r), a || b && c ? 1 : 0);
            Kit.is("and, and " + bits, cost(x, p + " and " + q + " and " + r), a && b && c ? 1 : 0);
            Kit.is("or, or " + bits, cost(x, p + " or " + q + " or " + r), a || b || c ? 1 : 0);
            Kit.is("not, and " + bits, cost(x, "not " + p + " and " + q + " or " + r), !a && b || c ? 1 : 0);
            Kit.is("not, or " + bits, cost(x, "not " + p + " or " + q + " and not " + r), !a || b && !c ? 1 : 0);
            Kit.is("not of all " + bits, cost(x, "not (" + p + " or " + q + ") and " + r), !(a || b) && c ? 1 : 0);
            Kit.is("( of or " + bits, cost(x, "(" + p + " or " + q + ") and " + r), (a || b) && c ? 1 : 0);
        }
    }

    /** SUM < SUM and SUM > SUM of like ones do not hold; each PART tells what it is as it is then. */
    private static void lawSums() {
        LateInks x = Kit.made("party 9;party 9;ink age 99;ink age 98;ink age 97 soaks 9;salt 3;damp spring 1;damp summer 4;damp autumn 7;"
                + "damp winter 9;deed ink 0 from 0 to 1 sum 12;deed ink 2 from 0 to 1 sum 34 on 0;deed ink 1 from 0 to 1 sum 56 but 1");
        Kit.law(x, "cost 1");
        x.seasons(6);
        // TIME is 6: autumn, DAMP 7; RIPE of DEED 1: 1 1, 1 4, 1 7, 1 9, each by 9 and by 10, rounded down, and spring and summer again.
        int ripe = 6 + 0 + 3 + 6 + 8 + 0 + 3;
        int[][] facts = {{0, 0, 12, 6, 2, 7, 3}, {1, 2, 34, ripe, 2, 7, 3}, {2, 1, 56, 6, 2, 7, 3}};
        String[] words = {"deed", "ink", "sum", "ripe", "season", "damp", "salt"};
        for (int i = 0; i < words.length; i++) {
            for (int d = 0; d < 3; d++) {
                int n = facts[d][i];
                Kit.law(x, "cost 1 if " + words[i] + "<" + (n + 1) + ";cost 2 if " + words[i] + "<" + n + ";cost 4 if " + words[i] + ">" + n
                        + ";cost 8 if " + words[i] + "+1>" + n + ";cost 16 if " + n + "<" + words[i] + " or " + n + ">" + words[i]);
                Kit.is(words[i] + " of " + d, x.deed(d, 13), 3 + 1 + 8);
            }
        }
        Kit.law(x, "cost 1 if leaning;cost 2 if barred;cost 4 if not leaning;cost 8 if not barred");
        int[] due = {4 + 8, 1 + 8, 2 + 4};
        for (int d = 0; d < 3; d++) {
            Kit.is("leaning and barred " + d, x.deed(d, 13), 3 + due[d]);
        }
        x.bar(2, -1);
        Kit.is("barred by none any more", x.deed(2, 13), 3 + 4 + 8);
        x.burn(0);
        Kit.is("leaning, though on a burnt one", x.deed(1, 13), 3 + 1 + 8);
    }

    // ---- the tape as long as it can be ----

    private static void wholeTape() {
        StringBuilder blanks = new StringBuilder();
        for (int i = 0; i < 400; i++) {
            blanks.append(' ');
        }
        String all = blanks.toString();
        port(all);
        law(all);
        port(all.substring(7) + "party 8");
        port("party 8" + all.substring(7));
        port(all.substring(6) + "party ^");
        port(all.substring(8) + "party 8;^");
        port(all.substring(8) + "party 8^?");
        StringBuilder sum = new StringBuilder("cost 7 if 1");
        while (sum.length() < 395) {
            sum.append("+1");
        }
        // 1 and 192 times 1: 399 bytes.
        LateInks x = inked();
        Kit.law(x, sum + ">192");
        Kit.is("a sum as long as can be", x.deed(0, 13), 7);
        Kit.law(x, sum + ">193");
        Kit.is("a sum as long as can be", x.deed(0, 13), 0);
        StringBuilder ors = new StringBuilder("cost 7 if 2<1");
        while (ors.length() < 388) {
            ors.append("or 2<1");
        }
        Kit.law(x, ors.toString());
        Kit.is("none of many", x.deed(0, 13), 0);
        Kit.law(x, ors + "or 1<2");
        Kit.is("the last of many", x.deed(0, 13), 7);
    }

    // ---- promise 6 ----

    /** The fault is of the latest text that was read; NONE without one. Sheets are no text. */
    private static void faults() {
        LateInks x = new LateInks();
        Kit.is("ahead of any", x.fault(), -1);
        Kit.portFault(x, "party 1;x");
        Kit.is("of a wrong text", x.fault(), 8);
        x.feed(0, 0, 0, 0, 0);
        x.end(0);
        x.seasons(1);
        x.image();
        x.undo();
        x.back();
        Kit.fails("seasons", Kit.ARGUMENT, () -> x.seasons(0));
        Kit.is("it stays", x.fault(), 8);
        x.jars(true);
        Kit.is("jars", x.fault(), 8);
        x.ask();
        Kit.is("ask", x.fault(), 8);
        Kit.law(x, "ripe 1");
        Kit.is("of a right law", x.fault(), -1);
        Kit.lawFault(x, "?");
        Kit.is("of a wrong law", x.fault(), 0);
        Kit.port(x, "");
        Kit.is("of an empty text", x.fault(), -1);
        Kit.portFault(x, ";");
        Kit.law(x, "");
        Kit.is("of an empty law", x.fault(), -1);
    }

    /** Of a wrong text nothing stays, whatever LINE stood ahead of the wrong byte, and no act is forgotten. */
    private static void nothingStays() {
        LateInks x = Kit.made(BASE + "spray 4", DEED);
        Kit.law(x, "cost 2;ripe 1");
        x.image();
        x.seasons(2);
        x.salt(5);
        String before = Kit.held(x);
        for (String line : new String[] {"party 1", "ink age 1", "damp spring 9", "damp winter 0", "salt 9", "spray 50", DEED,
            DEED + " on 0 but 0", times(3, "party 1"), times(4, "ink age 1 keeps 2 soaks 3"), times(7, DEED)}) {
            Kit.is("wrong behind it", Kit.portFault(x, line + ";?"), line.length() + 1);
            Kit.same("nothing stays of " + line, Kit.held(x), before);
            Kit.is("cut behind it", Kit.portFault(x, line + ";"), line.length() + 1);
            Kit.same("nothing stays of " + line, Kit.held(x), before);
        }
        for (String line : new String[] {"ripe 9", "slow 9", "cost 9", "cost 9 if 1<2", times(12, "cost 9")}) {
            Kit.is("wrong behind it", Kit.lawFault(x, line + ";?"), line.length() + 1);
            Kit.same("nothing stays of " + line, Kit.held(x), before);
            Kit.is("cut behind it", Kit.lawFault(x, line + ";"), line.length() + 1);
            Kit.same("nothing stays of " + line, Kit.held(x), before);
        }
        Kit.is("acts can be undone", x.undo(), true);
        Kit.is("salt", x.count(6), 1);
        Kit.is("acts can be undone", x.undo(), true);
        Kit.is("time", x.count(5), 0);
        // A wrong text where nothing was leaves the port without PARTIES.
        LateInks y = new LateInks();
        String empty = Kit.held(y);
        Kit.portFault(y, "party 1;time 7;ink age 1;salt 2;spray 3;damp summer 4;x");
        Kit.lawFault(y, "ripe 1;x");
        Kit.same("an empty port stays", Kit.held(y), empty);
        // A right text, even an empty one, lets none be remembered.
        for (String text : new String[] {"", "salt 3"}) {
            x.salt(2);
            Kit.port(x, text);
            Kit.is("a text of the port", x.count(11), 0);
            Kit.is("none to undo", x.undo(), false);
        }
        for (String text : new String[] {"", "cost 3"}) {
            x.salt(2);
            Kit.law(x, text);
            Kit.is("a law", x.count(11), 0);
            Kit.is("none to undo", x.undo(), false);
        }
    }

    private static int sheets(LateInks x, int call) {
        x.feed(0x09001401, 0, 0, 0, 0);
        x.end(4);
        return call == 2 ? x.ask() : x.jars(call == 1);
    }

    private static int restsOfAll(LateInks x) {
        int all = 0;
        for (int i = 0; i < 36; i++) {
            int party = i % 3;
            int other = i / 3 % 3;
            all = all * 31 + (party == other ? 0 : x.rests(party, other, i / 9));
        }
        return all;
    }

    /** Each call asked at once behind a wrong text, and behind SEASONS that do not stay, without another one between. */
    private static void atOnceBehindIt() {
        LateInks x = Kit.made("party 20;party 8;party 7;ink age 5 soaks 5;ink age 9 keeps 3 soaks 4;ink age 2 soaks 5;spray 40;"
                + "damp summer 1;damp winter 5",
                "deed ink 2 from 0 to 1 sum 9 term 3;deed ink 0 from 1 to 2 sum 4 on 0;deed ink 1 from 2 to 0 sum 5 but 0;deed ink 0 from 0 to 2 sum 3");
        Kit.law(x, "cost 1 if sum>3");
        x.seasons(1);
        IntSupplier[] calls = {() -> x.count(0), () -> x.count(1), () -> x.count(2), () -> x.count(3), () -> x.count(4), () -> x.count(5), () -> x.count(6),
            () -> x.count(7), () -> x.count(8), () -> x.count(9), () -> x.count(10), () -> x.count(11), () -> x.damp(0), () -> x.damp(3),
            () -> x.party(0, 0), () -> x.party(0, 1), () -> x.party(0, 2), () -> x.party(1, 3), () -> x.party(1, 4), () -> x.party(1, 5),
            () -> x.party(1, 6), () -> x.ink(0, 0), () -> x.ink(1, 1), () -> x.ink(1, 2), () -> x.ink(0, 3), () -> x.deed(1, 8), () -> x.deed(0, 9),
            () -> x.deed(1, 10), () -> x.deed(0, 11), () -> x.deed(1, 12), () -> x.deed(1, 13), () -> x.deed(0, 14), () -> x.deed(1, 15), () -> x.reads(),
            () -> x.blank(), () -> x.valid(), () -> x.when(1), () -> x.due(1), () -> x.ruin(false), () -> x.ruin(true), () -> x.wealth(0, 9),
            () -> x.chain(1), () -> x.hangs(0), () -> x.late(), () -> x.net(0, 7), () -> x.worth(2, 9, false), () -> x.worth(2, 9, true),
            () -> sheets(x, 0), () -> sheets(x, 1), () -> sheets(x, 2), () -> x.forged(0) ? 1 : 0, () -> x.apart(), () -> x.soonest(false),
            () -> x.soonest(true), () -> x.owes(0, 1), () -> x.cleared(), () -> x.ring(0) ? 1 : 0, () -> x.pivot(), () -> x.buyers(-1), () -> x.buyers(3),
            () -> restsOfAll(x), () -> x.worth(0, 0, true), () -> x.odds(4, 2), () -> x.early(1), () -> x.richest(), () -> x.alike(), () -> x.broken(),
            () -> x.ahead(1, 2, 0), () -> x.trial(5, false), () -> x.trial(80, true), () -> x.span(5, false), () -> x.span(5, true),
            () -> x.led(0, false), () -> x.led(0, true), () -> x.log(0, 0), () -> x.log(0, 2)};
        String[] texts = {"party 99;ink age 1 soaks 1;damp spring 0;damp summer 9;salt 9;spray 7;deed ink 0 from 0 to 1 sum 9;?",
            "deed ink 3", "ink age 1 soaks 9;ink age 1;?", "party 1;party 2;deed ink 0 from 3 to 4 sum 9 on 1;"};
        int[] due = new int[calls.length];
        for (int i = 0; i < calls.length; i++) {
            due[i] = calls[i].getAsInt();
        }
        for (int i = 0; i < calls.length; i++) {
            for (String text : texts) {
                Kit.is("wrong", Kit.portFault(x, text) >= 0, true);
                Kit.is("call " + i + " behind " + text, calls[i].getAsInt(), due[i]);
            }
            Kit.lawFault(x, "ripe 9;cost 9;slow 40 if");
            Kit.is("call " + i + " behind a wrong law", calls[i].getAsInt(), due[i]);
            x.wealth(0, 80);
            Kit.is("call " + i + " behind seasons ahead", calls[i].getAsInt(), due[i]);
            x.trial(80, true);
            Kit.is("call " + i + " behind a trial", calls[i].getAsInt(), due[i]);
        }
        Runnable[] none = {() -> x.party(3, 0), () -> x.ink(3, 0), () -> x.deed(4, 0), () -> x.write(3, 0, 1, 1, 1), () -> x.lend(3, 0, 1),
            () -> x.owes(0, 3), () -> x.warm(4, 0), () -> x.burn(4), () -> x.bar(4, 0), () -> x.when(4), () -> x.chain(4), () -> x.ring(3)};
        for (Runnable call : none) {
            Kit.portFault(x, texts[0]);
            Kit.fails("none of these is there", Kit.BOUNDS, call);
        }
    }
}
