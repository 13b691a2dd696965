/** Promises 1 to 3, and what a new object answers. */
public final class TapeTest {
    public static void main(String[] args) {
        newObject();
        feeding();
        ending();
        Kit.end();
    }

    private static void newObject() {
        LateInks x = new LateInks();
        int[] due = {0, 0, 0, 0, -1, 0, 1, 0, 0, 0, 0, 0, -1};
        for (int i = 0; i < due.length; i++) {
            Kit.is("count " + i, x.count(i), due[i]);
        }
        Kit.is("count -1", x.count(-1), -1);
        for (int season = 0; season < 4; season++) {
            Kit.is("damp", x.damp(season), 2);
        }
        Kit.is("seed", x.seed(1), 1);
        Kit.is("fault", x.fault(), -1);
        Kit.is("undo", x.undo(), false);
        Kit.is("back", x.back(), false);
    }

    private static void feeding() {
        LateInks x = new LateInks();
        for (int n = 20; n <= 400; n += 20) {
            Kit.is("feed", x.feed(0x20202020, 0x20202020, 0x20202020, 0x20202020, 0x20202020), n);
        }
        Kit.is("feed beyond 400", x.feed(0, 0, 0, 0, 0), -1);
        Kit.is("end at 400", x.end(400), true);
        Kit.is("blanks alone are a text", x.port(), 1);
        Kit.is("used up", x.end(1), false);
        x.feed(0, 0, 0, 0, 0);
        Kit.is("end", x.end(1), true);
        for (int n = 21; n <= 381; n += 20) {
            Kit.is("feed", x.feed(0, 0, 0, 0, 0), n);
        }
        Kit.is("401 are too many", x.feed(0, 0, 0, 0, 0), -1);
        Kit.is("none came", x.end(382), false);
        Kit.is("all stayed", x.end(381), true);
    }

    private static void ending() {
        LateInks x = new LateInks();
        Kit.is("end of an empty tape", x.end(0), true);
        Kit.is("end beyond", x.end(1), false);
        x.feed(0x70617274, 0x79203132, 0x33343536, 0, 0);
        Kit.is("below 0", x.end(-1), false);
        Kit.is("beyond", x.end(21), false);
        Kit.is("highest byte first", x.end(9), true);
        Kit.is("not back again", x.end(10), false);
        Kit.is("port", x.port(), 1);
        Kit.is("coins", x.party(0, 0), 123);
        // What comes behind a shortened tape follows its last byte.
        x.feed(0x70617274, 0x79203000, 0, 0, 0);
        x.end(6);
        x.feed(0x37000000, 0, 0, 0, 0);
        x.end(7);
        x.port();
        Kit.is("coins behind", x.party(1, 0), 7);
    }
}
