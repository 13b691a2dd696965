/** What README.md shows answers as it says there. */
public final class ReadmeTest {
    public static void main(String[] args) {
        LateInks x = new LateInks();
        byBytes(x);
        byTexts(x);
        acts(x);
        refused(x);
        Kit.end();
    }

    private static void tell(LateInks x, String text) {
        for (int i = 0; i < text.length(); i += 20) {
            x.feed(four(text, i), four(text, i + 4), four(text, i + 8), four(text, i + 12), four(text, i + 16));
        }
        x.end(text.length());
    }

    private static int four(String text, int from) {
        int number = 0;
        for (int i = from; i < from + 4; i++) {
            number = number << 8 | (i < text.length() ? text.charAt(i) : 0);
        }
        return number;
    }

    private static void byBytes(LateInks x) {
        Kit.is("feed", x.feed(0x70617274, 0x79203132, 0x3b706172, 0x74792038, 0), 20);
        Kit.is("end", x.end(16), true);
        Kit.is("port", x.port(), 1);
        Kit.is("coins", x.party(0, 0), 12);
    }

    private static void byTexts(LateInks x) {
        tell(x, "ink age 5 keeps 4 soaks 5;deed ink 0 from 0 to 1 sum 9 term 1");
        Kit.is("port", x.port(), 2);
        tell(x, "ripe 1 if season < 1; cost 2 if sum > 5");
        Kit.is("law", x.law(), 2);
        Kit.is("ripens by", x.deed(0, 12), 3);
        Kit.is("costs", x.deed(0, 13), 3);
        Kit.is("when", x.when(0), 2);
        Kit.is("due", x.due(0), 3);
    }

    private static void acts(LateInks x) {
        Kit.is("warm", x.warm(0, 1), 5);
        Kit.is("reads", x.reads(), 1);
        Kit.is("undo", x.undo(), true);
        Kit.is("reads", x.reads(), 0);
        x.image();
        Kit.is("seasons", x.seasons(4), 1);
        Kit.is("coins", x.party(1, 0), 17);
        Kit.is("log", x.log(0, 2), 2);
        Kit.is("acts", x.count(11), 1);
        Kit.is("back", x.back(), true);
        Kit.is("coins", x.party(1, 0), 8);
        Kit.is("acts", x.count(11), 0);
        Kit.is("undo", x.undo(), false);
    }

    private static void refused(LateInks x) {
        tell(x, "salt 5; party 1000");
        Kit.fails("port", Kit.ARGUMENT, x::port);
        Kit.is("fault", x.fault(), 14);
        Kit.is("salt", x.count(6), 1);
        Kit.is("used up", x.end(1), false);
        Kit.fails("party", Kit.BOUNDS, () -> x.party(2, 0));
        Kit.fails("lend", Kit.STATE, () -> x.lend(0, 1, 13));
        Kit.is("coins", x.party(0, 0), 12);
        Kit.is("of none", x.log(0, 2), LateInks.NONE);
    }
}
