/** Promises 4 to 6: the grammar of THE PORT and of THE LAW, first wrong bytes, and refusals. */
public final class TextTest {
    private static final String TWO = "party 9;party 9;ink age 5;";

    public static void main(String[] args) {
        rightPorts();
        wrongPorts();
        portLimits();
        tooManyTexts();
        rightLaws();
        wrongLaws();
        cutTexts();
        nothingStays();
        Kit.end();
    }

    private static void rightPorts() {
        LateInks x = new LateInks();
        Kit.is("empty", Kit.port(x, ""), 1);
        Kit.is("blanks", Kit.port(x, "   "), 2);
        Kit.is("tight", Kit.port(x, "  party5;party007 ;ink age99keeps99soaks9;ink age 001;spray100;salt 0 ; time999 "), 3);
        Kit.is("parties", x.count(0), 2);
        Kit.is("coins", x.party(1, 0), 7);
        Kit.is("age", x.ink(0, 0), 99);
        Kit.is("keeps", x.ink(0, 1), 99);
        Kit.is("soaks", x.ink(0, 2), 9);
        Kit.is("age 1", x.ink(1, 0), 1);
        Kit.is("keeps none", x.ink(1, 1), 0);
        Kit.is("soaks none", x.ink(1, 2), 0);
        Kit.is("salt", x.count(6), 0);
        Kit.is("spray", x.count(7), 100);
        Kit.is("time", x.count(5), 999);
        Kit.port(x, "damp spring 0;damp summer 9;damp autumn 1;damp winter 3;deed ink 1 from 0 to 1 sum 99 term 20;"
                + "deed ink 0 from 1 to 0 sum 0 on 0 but 0;deed ink 0 from 1 to 0 sum 1 but 1;deed ink 0 from 1 to 0 sum 1 term 3 on 2");
        int[] damps = {0, 9, 1, 3};
        for (int i = 0; i < 4; i++) {
            Kit.is("damp " + i, x.damp(i), damps[i]);
        }
        int[][] due = {{1, 0, 1, 99, 20, -1, -1, 999}, {0, 1, 0, 0, 0, 0, 0, 999}, {0, 1, 0, 1, 0, -1, 1, 999},
            {0, 1, 0, 1, 3, 2, -1, 999}};
        for (int d = 0; d < due.length; d++) {
            for (int what = 0; what < due[d].length; what++) {
                Kit.is("deed " + d + " " + what, x.deed(d, what), due[d][what]);
            }
        }
        Kit.is("the least may be told", Kit.portFault(x, "party 0;ink age 1 keeps 0 soaks 0;"
                + "deed ink 0 from 0 to 1 sum 0 term 0 on 0 but 0;damp spring 0;salt 0;spray 0"), -1);
        Kit.is("soaks without keeps", Kit.portFault(x, "ink age 3 soaks 4"), -1);
        Kit.is("soaks", x.ink(3, 2), 4);
    }

    private static void wrongPort(String text, int due) {
        LateInks x = new LateInks();
        Kit.is("port '" + text + "'", Kit.portFault(x, text), due);
        Kit.is("texts", x.count(3), due == -1 ? 1 : 0);
    }

    private static void wrongPorts() {
        wrongPort(";", 0);
        wrongPort(" ;party 1", 1);
        wrongPort("party 1;", 8);
        wrongPort("party 1; ", 9);
        wrongPort("party 1;;party 2", 8);
        wrongPort("party 1 party 2", 8);
        wrongPort("party 1\t", 7);
        wrongPort("party  ", 7);
        wrongPort("Party 1", 0);
        wrongPort("partys 1", 0);
        wrongPort("partyz 1", 0);
        wrongPort("xarty 1", 0);
        wrongPort("salt 1;ialt 1", 7);
        wrongPort("party -1", 6);
        wrongPort("party 1000", 6);
        wrongPort("party 0001", 6);
        wrongPort("party 12345678901234567890", 6);
        wrongPort("party 999", -1);
        wrongPort("party x", 6);
        wrongPort("party 1" + (char) 255, 7);
        wrongPort((char) 233 + "", 0);
        wrongPort((char) 0 + "", 0);
        wrongPort("ink", 3);
        wrongPort("inkage 3", 0);
        wrongPort("ink age 100", 8);
        wrongPort("ink age 99", -1);
        wrongPort("ink age", 7);
        wrongPort("ink age 3 soaks 1 keeps 2", 18);
        wrongPort("ink age 3 keeps 1 keeps 2", 18);
        wrongPort("ink age 3 keeps", 15);
        wrongPort("ink age 3 keep 1", 10);
        wrongPort("damp 1 2", 5);
        wrongPort("damp springs 2", 5);
        wrongPort("damp spring", 11);
        wrongPort("salt 9", -1);
        wrongPort("spray 100", -1);
        wrongPort("time 999", -1);
        wrongPort("time", 4);
        wrongPort("deed", 4);
        wrongPort("deed from", 5);
        wrongPort(TWO + "deed ink 1 from 0 to 1 sum 1", 35);
        wrongPort(TWO + "deed ink 0 from 2 to 1 sum 1", 42);
        wrongPort(TWO + "deed ink 0 from 0 to 2 sum 1", 47);
        wrongPort(TWO + "deed ink 0 from 1 to 01 sum 1", 47);
        wrongPort(TWO + "deed ink 0 from 0 to 1", 48);
        wrongPort(TWO + "deed ink 0 from 0 to 1 sum 1 on 0 term 1", 58);
        wrongPort(TWO + "deed ink 0 from 0 to 1 sum 1 but 0", 59);
        wrongPort(TWO + "deed ink 0 from 0 to 1 sum 1;deed ink 0 from 0 to 1 sum 1 on 1", 87);
        wrongPort(TWO + "deed ink 0 from 0 to 1 sum 1;deed ink 0 from 0 to 1 sum 1 but 0 on 0", 90);
        wrongPort(TWO + "deed ink 0 from 0 to 1 sum 1;time 0", 55);
    }

    private static void portLimits() {
        StringBuilder lines = new StringBuilder("salt 1");
        for (int i = 1; i < 14; i++) {
            lines.append(";salt 1");
        }
        wrongPort(lines.toString(), -1);
        wrongPort(lines + ";", lines.length() + 1);
        wrongPort(lines + "; salt 1", lines.length() + 2);
        wrongPort("party 1;party 1;party 1;party 1;party 1;party 1", -1);
        wrongPort("party 1;party 1;party 1;party 1;party 1;party 1; party x", 49);
        wrongPort("ink age 1;ink age 1;ink age 1;ink age 1;ink age 1;ink age 1", -1);
        wrongPort("ink age 1;ink age 1;ink age 1;ink age 1;ink age 1;ink age 1;ink", 60);
        LateInks x = Kit.made(TWO + "salt 1");
        for (int i = 0; i < 8; i++) {
            Kit.is("deed", Kit.portFault(x, "deed ink 0 from 0 to 1 sum 1"), -1);
        }
        Kit.is("a ninth deed", Kit.portFault(x, " deed ink"), 1);
        Kit.is("deeds", x.count(2), 8);
    }

    private static void tooManyTexts() {
        LateInks x = new LateInks();
        for (int i = 1; i <= 12; i++) {
            Kit.is("texts", Kit.port(x, "salt " + i % 10), i);
        }
        Kit.portFault(x, "salt x");
        Kit.is("wrong comes first", x.fault(), 5);
        Kit.tape(x, "salt 7");
        Kit.fails("a 13th text", Kit.UNSUPPORTED, x::port);
        Kit.is("its fault", x.fault(), -1);
        Kit.is("its tape", x.end(1), false);
        Kit.is("texts stay", x.count(3), 12);
        Kit.is("salt stays", x.count(6), 2);
        Kit.is("a law is no text of the port", Kit.law(x, "cost 1"), 1);
    }

    private static void rightLaws() {
        LateInks x = Kit.made("party 1;party 1;ink age 99 soaks 9;ink age 50;damp summer 7;salt 3;time 5;deed ink 0 from 0 to 1 sum 40;"
                + "deed ink 1 from 1 to 0 sum 8 on 0;deed ink 1 from 1 to 0 sum 9 but 0");
        String[] holds = {"leaning", "010", "barred", "001", "not leaning", "101", "leaning or barred", "011",
            "not(leaning or barred)", "100", "leaning and barred", "000", "sum>8", "101", "sum<9", "010", "8<sum", "101",
            "deed>0", "011", "ink<1", "100", "ripe<1", "111", "season>0 and season<2", "111", "damp>6", "111", "damp<7", "000",
            "salt+4>6", "111", "salt>2+1", "000", "deed+ink+1<3", "100", "deed + ink+1 <4", "110", "not not leaning", "010",
            "not leaning and not barred", "100", "leaning or barred and deed<1", "010", "(leaning or barred)and deed<2", "010",
            "deed<1 or leaning and deed<1 or barred", "101", "deed<1and deed>0or leaning", "010", "1<2", "111", "2<1", "000",
            "not((not((leaning))))", "010", "not not not not not not leaning", "010", "999>998", "111"};
        for (int i = 0; i < holds.length; i += 2) {
            Kit.is("law " + holds[i], Kit.lawFault(x, "cost 40 if " + holds[i] + ";ripe 0"), -1);
            for (int d = 0; d < 3; d++) {
                Kit.is(holds[i] + " of " + d, x.deed(d, 13), 3 + (holds[i + 1].charAt(d) == '1' ? 40 : 0));
            }
        }
        Kit.is("lines", Kit.law(x, "ripe 2;ripe 3 if leaning;slow 1;slow 40 if barred;cost 5;cost 2 if ink<1"), 6);
        Kit.is("count", x.count(4), 6);
        // Of summer: 9 times 7 by 10 is 6.
        int[] ripens = {8, 5, 0};
        int[] costs = {10, 8, 8};
        for (int d = 0; d < 3; d++) {
            Kit.is("ripens", x.deed(d, 12), ripens[d]);
            Kit.is("costs", x.deed(d, 13), costs[d]);
        }
        Kit.is("an empty law", Kit.law(x, " "), 0);
        Kit.is("count", x.count(4), 0);
        Kit.is("costs", x.deed(0, 13), 3);
    }

    private static void wrongLaw(String text, int due) {
        LateInks x = new LateInks();
        Kit.is("law '" + text + "'", Kit.lawFault(x, text), due);
        Kit.is("no law stays", x.count(4) == -1, due != -1);
    }

    private static void wrongLaws() {
        wrongLaw("ripe 40", -1);
        wrongLaw("ripe 0040", 5);
        wrongLaw("ripe 1;", 7);
        wrongLaw("ripe 1 if", 9);
        wrongLaw("ripe 1 if ", 10);
        wrongLaw("ripe 1 if or", 10);
        wrongLaw("ripe 1 if leaning and", 21);
        wrongLaw("ripe 1 if leaning or or", 21);
        wrongLaw("ripe 1 if leaning leaning", 18);
        wrongLaw("ripe 1 if 1", 11);
        wrongLaw("ripe 1 if 1;", 11);
        wrongLaw("ripe 1 if 1<2<3", 13);
        wrongLaw("ripe 1 if 1=2", 11);
        wrongLaw("ripe 1 if 1<=2", 12);
        wrongLaw("ripe 1 if 1+<2", 12);
        wrongLaw("ripe 1 if 1<2+", 14);
        wrongLaw("ripe 1 if 1000<2", 10);
        wrongLaw("ripe 1 if 2>1000", 12);
        wrongLaw("ripe 1 if (1)<2", 12);
        wrongLaw("ripe 1 if (leaning", 18);
        wrongLaw("ripe 1 if (leaning;", 18);
        wrongLaw("ripe 1 if leaning)", 17);
        wrongLaw("ripe 1 if ()", 11);
        wrongLaw("ripe 1 if coins>2", 10);
        wrongLaw("ripe 1 if leaning>2", 17);
        wrongLaw("ripe 1 if 2>leaning", 12);
        wrongLaw("ripe 1 if ((((((1<2))))))", -1);
        wrongLaw("ripe 1 if (((((((1<2)))))))", 16);
        wrongLaw("ripe 1 if not(not(not(not leaning)))", 22);
        wrongLaw("ripe 1 if not(not(not leaning))or((((((1<2))))))", -1);
        wrongLaw("ripe 1 if not(not(not leaning))and not(not(not(leaning)))", -1);
        wrongLaw("ripe 1 if not(not(not leaning))and not(not(not((leaning))))", 47);
        StringBuilder lines = new StringBuilder("cost 1");
        for (int i = 1; i < 12; i++) {
            lines.append(";cost 1");
        }
        wrongLaw(lines.toString(), -1);
        wrongLaw(lines + ";cost 1", lines.length() + 1);
        wrongLaw(lines + ";", lines.length() + 1);
        LateInks x = new LateInks();
        Kit.law(x, "cost 7");
        Kit.lawFault(x, "cost");
        Kit.is("the law before stays", x.count(4), 1);
    }

    /** Of a right text, cut anywhere behind a thing, only the end can be wrong; a strange byte always is. */
    private static void cutTexts() {
        String port = "party 5 ; party 10;ink age 3 keeps 4 soaks 5 ;ink age 2; damp winter 4;salt 2;spray 3;time 77;"
                + "deed ink 0 from 1 to 0 sum 12 term 2;deed ink 1 from 0 to 1 sum 3 on 0 but 0";
        String law = "ripe 4 if ripe<2 and not ( leaning or 3+salt > damp ) ;slow 3;cost 40 if not not barred or sum > 4";
        cutAll(port, true);
        cutAll(law, false);
    }

    private static void cutAll(String text, boolean isPort) {
        for (int at = 0; at <= text.length(); at++) {
            boolean within = at > 0 && at < text.length() && alike(text.charAt(at - 1), text.charAt(at));
            if (within) {
                continue;
            }
            String cut = text.substring(0, at);
            int fault = faultOf(cut, isPort);
            Kit.is("cut '" + cut + "'", fault == -1 || fault == at, true);
            Kit.is("strange behind '" + cut + "'", faultOf(cut + "?" + text.substring(at), isPort), at);
            Kit.is("a thing too long behind '" + cut + "'", faultOf(cut + "  1000", isPort), at + 2);
        }
    }

    private static boolean alike(char a, char b) {
        return Character.isLetter(a) && Character.isLetter(b) || Character.isDigit(a) && Character.isDigit(b);
    }

    private static int faultOf(String text, boolean isPort) {
        LateInks x = new LateInks();
        return isPort ? Kit.portFault(x, text) : Kit.lawFault(x, text);
    }

    private static void nothingStays() {
        LateInks x = Kit.made(TWO + "deed ink 0 from 0 to 1 sum 4");
        Kit.law(x, "cost 3");
        x.salt(4);
        x.seasons(2);
        String before = Kit.sight(x);
        Kit.portFault(x, "party 8;ink age 4;damp summer 9;salt 9;spray 50;deed ink 1 from 2 to 0 sum 3;time 3");
        Kit.is("fault", x.fault(), 77);
        Kit.same("a wrong text", Kit.sight(x), before);
        Kit.lawFault(x, "ripe 4;ripe");
        Kit.same("a wrong law", Kit.sight(x), before);
        Kit.is("a wrong text lets acts be remembered", x.count(11), 2);
        Kit.lawFault(x, "ripe 4");
        Kit.is("a right one does not", x.count(11), 0);
        Kit.is("undo", x.undo(), false);
        x.salt(1);
        Kit.portFault(x, "");
        Kit.is("an empty one does not", x.count(11), 0);
        Kit.lawFault(x, "x");
        Kit.tape(x, "a");
        Kit.fails("jars", Kit.ARGUMENT, () -> x.jars(true));
        Kit.is("sheets are no text", x.fault(), 0);
    }
}
