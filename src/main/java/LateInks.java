import java.util.Arrays;
import java.util.NoSuchElementException;

/** A port in which deeds are written in inks that show late; DOC.md tells every promise. */
public final class LateInks {
    public static final int NONE = -1;

    private static final int MOST_PARTIES = 6;
    private static final int MOST_INKS = 6;
    private static final int MOST_DEEDS = 8;
    private static final int MOST_TEXTS = 12;
    private static final int MOST_PORT_LINES = 14;
    private static final int MOST_LAW_LINES = 12;
    private static final int MOST_REMEMBERED = 12;
    private static final int MOST_COINS = 9999;
    private static final int MOST_TIME = 9999;
    private static final int MOST_RIPE = 999;
    private static final int MOST_SUM = 99;
    private static final int MOST_TERM = 20;
    private static final int MOST_SALT = 9;
    private static final int MOST_NUMBER = 999;
    private static final int SEASONS_OF_YEAR = 4;
    private static final int FARTHEST = 80;
    private static final int TAPE_BYTES = 400;
    private static final int FED_BYTES = 20;

    private static final int BLANK = 0;
    private static final int READABLE = 1;
    private static final int FADED = 2;
    private static final int BURNT = 3;

    private static final int CAME_UP = 0;
    private static final int FADED_AWAY = 1;
    private static final int PAID_IN_FULL = 2;
    private static final int PAID_BY_BROKE = 3;
    private static final int WAS_BURNT = 4;

    private final int[] tape = new int[TAPE_BYTES];
    private int tapeLength = 0;
    private final Reader reader = new Reader();
    private final Port port = new Port();
    // Both a text being read and seasons that must not stay happen in this one.
    private final Port draft = new Port();
    private final Port kept = new Port();
    private boolean isKept = false;
    private final Port[] remembered = new Port[MOST_REMEMBERED];
    private int rememberedCount = 0;
    private int rememberedNext = 0;
    private final Jars sheets = new Jars();
    private final Market market = new Market();
    private final int[] whens = new int[MOST_DEEDS];
    private final int[] costs = new int[MOST_DEEDS];

    public LateInks() {
        for (int i = 0; i < MOST_REMEMBERED; i++) {
            remembered[i] = new Port();
        }
    }

    // ---- the tape and the texts ----

    public int feed(int a, int b, int c, int d, int e) {
        if (tapeLength + FED_BYTES > TAPE_BYTES) {
            return NONE;
        }
        putBytes(a);
        putBytes(b);
        putBytes(c);
        putBytes(d);
        putBytes(e);
        return tapeLength;
    }

    public boolean end(int n) {
        if (n < 0 || n > tapeLength) {
            return false;
        }
        tapeLength = n;
        return true;
    }

    public int port() throws IllegalArgumentException, UnsupportedOperationException {
        reader.open(tape, tapeLength);
        tapeLength = 0;
        draft.become(port);
        PortText.readInto(draft, reader);
        if (port.texts >= MOST_TEXTS) {
            throw new UnsupportedOperationException();
        }
        draft.texts++;
        port.become(draft);
        forgetActs();
        return port.texts;
    }

    public int law() throws IllegalArgumentException {
        reader.open(tape, tapeLength);
        Law fresh = new Law(tapeLength);
        tapeLength = 0;
        LawText.readInto(fresh, reader);
        port.law = fresh;
        forgetActs();
        return fresh.lineCount;
    }

    public int fault() {
        return reader.wrongByte;
    }

    // ---- what there is ----

    public int party(int party, int what) throws IndexOutOfBoundsException, NoSuchElementException {
        needParty(party);
        switch (what) {
            case 0:
                return port.parties[party].coins;
            case 1:
                return port.parties[party].isBroke ? 1 : 0;
            case 2:
                return port.shareOf(party);
            case 3:
                return port.leastNet(party);
            case 4:
                return port.netOf(party, port.readingOf(port.bestReading(party)));
            case 5:
                return port.bestReading(party);
            case 6:
                return port.meanNet(party);
            default:
                throw new NoSuchElementException();
        }
    }

    public int ink(int ink, int what) throws IndexOutOfBoundsException, NoSuchElementException {
        needInk(ink);
        switch (what) {
            case 0:
                return port.inks[ink].age;
            case 1:
                return port.inks[ink].keeps;
            case 2:
                return port.inks[ink].soaks;
            case 3:
                return port.deedsOfInk(ink);
            default:
                throw new NoSuchElementException();
        }
    }

    public int deed(int deed, int what) throws IndexOutOfBoundsException, NoSuchElementException {
        needDeed(deed);
        if (what >= 0 && what < Deed.TOLD) {
            return port.deeds[deed].tell(what);
        }
        switch (what) {
            case 12:
                return port.ripensBy(deed);
            case 13:
                return port.costsOf(deed);
            case 14:
                return port.isValid(deed, port.inState(READABLE)) ? 1 : 0;
            case 15:
                fillWhens(0);
                return port.priceOf(deed, whens[deed]);
            default:
                throw new NoSuchElementException();
        }
    }

    // ---- acts ----

    public int seasons(int n) throws IllegalArgumentException {
        if (n < 1 || n > FARTHEST) {
            throw new IllegalArgumentException();
        }
        rememberAct();
        int paid = 0;
        for (int i = 0; i < n; i++) {
            paid += port.passSeason(port.drawSpray());
        }
        return paid;
    }

    public int write(int ink, int from, int to, int sum, int term) throws IndexOutOfBoundsException, IllegalArgumentException, IllegalStateException {
        needInk(ink);
        needParty(from);
        needParty(to);
        needTwo(from, to);
        if (sum < 0 || sum > MOST_SUM || term < 0 || term > MOST_TERM) {
            throw new IllegalArgumentException();
        }
        if (port.deedCount >= MOST_DEEDS) {
            throw new IllegalStateException();
        }
        rememberAct();
        Deed written = port.addDeed();
        written.ink = ink;
        written.debtor = from;
        written.creditor = to;
        written.sum = sum;
        written.term = term;
        return port.deedCount - 1;
    }

    public int warm(int deed, int party) throws IndexOutOfBoundsException, IllegalStateException {
        needDeed(deed);
        needParty(party);
        int price = port.costsOf(deed);
        if (port.deeds[deed].state != BLANK || port.parties[party].coins < price) {
            throw new IllegalStateException();
        }
        rememberAct();
        port.parties[party].coins -= price;
        port.comeUp(deed);
        port.halveNextBlank(deed);
        return port.parties[party].coins;
    }

    public int burn(int deed) throws IndexOutOfBoundsException, IllegalStateException {
        needDeed(deed);
        int before = port.deeds[deed].state;
        if (before == BURNT) {
            throw new IllegalStateException();
        }
        rememberAct();
        port.deeds[deed].state = BURNT;
        port.book.add(port.time, deed, WAS_BURNT, 0);
        return before;
    }

    public int lend(int party, int other, int n) throws IndexOutOfBoundsException, IllegalArgumentException, IllegalStateException {
        needParty(party);
        needParty(other);
        needTwo(party, other);
        if (n < 1 || n > MOST_NUMBER) {
            throw new IllegalArgumentException();
        }
        if (port.parties[party].coins < n || port.parties[other].coins + n > MOST_COINS) {
            throw new IllegalStateException();
        }
        rememberAct();
        port.parties[party].coins -= n;
        port.parties[other].coins += n;
        return port.parties[party].coins;
    }

    public int salt(int n) throws IllegalArgumentException {
        if (n < 0 || n > MOST_SALT) {
            throw new IllegalArgumentException();
        }
        rememberAct();
        int before = port.salt;
        port.salt = n;
        return before;
    }

    public int bar(int deed, int other) throws IndexOutOfBoundsException, IllegalArgumentException {
        needDeed(deed);
        if (other != NONE) {
            needDeed(other);
        }
        if (other >= deed) {
            throw new IllegalArgumentException();
        }
        rememberAct();
        int before = port.deeds[deed].barredBy;
        port.deeds[deed].barredBy = other;
        return before;
    }

    // ---- what can be read, and when ----

    public int reads() {
        return port.inState(READABLE);
    }

    public int blank() {
        return port.inState(BLANK);
    }

    public int valid() {
        int readable = port.inState(READABLE);
        int set = 0;
        for (int i = 0; i < port.deedCount; i++) {
            if (port.isValid(i, readable)) {
                set |= 1 << i;
            }
        }
        return set;
    }

    public int when(int deed) throws IndexOutOfBoundsException {
        needDeed(deed);
        fillWhens(0);
        return whens[deed];
    }

    public int due(int deed) throws IndexOutOfBoundsException {
        needDeed(deed);
        draft.become(port);
        for (int n = 0; n <= FARTHEST; n++) {
            if (draft.deeds[deed].isPaid) {
                return n;
            }
            draft.passSeason(0);
        }
        return NONE;
    }

    public int ruin(boolean who) {
        draft.become(port);
        for (int n = 0; n <= FARTHEST; n++) {
            int set = draft.brokeParties();
            if (set != 0) {
                return who ? leastOf(set) : n;
            }
            draft.passSeason(0);
        }
        return NONE;
    }

    public int wealth(int party, int n) throws IndexOutOfBoundsException, IllegalArgumentException {
        needParty(party);
        needSpan(n);
        goAhead(n);
        return draft.parties[party].coins;
    }

    public int chain(int deed) throws IndexOutOfBoundsException {
        needDeed(deed);
        return port.chainOf(deed);
    }

    public int hangs(int deed) throws IndexOutOfBoundsException {
        needDeed(deed);
        int set = 0;
        for (int i = deed + 1; i < port.deedCount; i++) {
            if ((port.chainOf(i) >> deed & 1) == 1) {
                set |= 1 << i;
            }
        }
        return set;
    }

    public int late() {
        fillWhens(0);
        int latest = NONE;
        int most = NONE;
        for (int i = 0; i < port.deedCount; i++) {
            if (whens[i] > most) {
                most = whens[i];
                latest = i;
            }
        }
        return latest;
    }

    // ---- what blank deeds may read ----

    public int net(int party, int reading) throws IndexOutOfBoundsException {
        needParty(party);
        return port.netOf(party, port.readingOf(reading));
    }

    public int worth(int party, int c, boolean much) throws IndexOutOfBoundsException, IllegalArgumentException {
        needParty(party);
        if (c < 0 || c > MOST_NUMBER) {
            throw new IllegalArgumentException();
        }
        fillCosts();
        int blanks = port.inState(BLANK);
        int bestSet = 0;
        int most = port.netOf(party, port.readingOf(0));
        for (int set = 1; set <= blanks; set++) {
            int price = costsOfSet(set);
            if ((set & ~blanks) == 0 && price <= c) {
                int gain = port.netOf(party, port.readingOf(set)) - price;
                if (gain > most) {
                    most = gain;
                    bestSet = set;
                }
            }
        }
        return much ? most : bestSet;
    }

    // ---- unknown sheets and inks ----

    public int jars(boolean inks) throws IllegalArgumentException {
        readSheets();
        return inks ? sheets.fittingInks(port) : sheets.fittingPairs(port);
    }

    public int ask() throws IllegalArgumentException {
        readSheets();
        return sheets.bestTime(port);
    }

    public boolean forged(int deed) throws IndexOutOfBoundsException, IllegalStateException {
        needDeed(deed);
        Deed told = port.deeds[deed];
        if (told.up == NONE) {
            throw new IllegalStateException();
        }
        return port.showsAt(told.ink, told.written) != told.up + 1;
    }

    public int apart() {
        int bestSet = NONE;
        int fewest = SEASONS_OF_YEAR + 1;
        for (int set = 0; set < 1 << SEASONS_OF_YEAR; set++) {
            if (Integer.bitCount(set) < fewest && port.tellsInksApart(set)) {
                fewest = Integer.bitCount(set);
                bestSet = set;
            }
        }
        return bestSet;
    }

    public int soonest(boolean seasons) {
        int first = NONE;
        int least = FARTHEST + 1;
        for (int i = 0; i < port.inkCount; i++) {
            int n = port.showsAt(i, port.time) - port.time;
            if (n < least) {
                least = n;
                first = i;
            }
        }
        return first != NONE && seasons ? least : first;
    }

    // ---- debts ----

    public int owes(int party, int other) throws IndexOutOfBoundsException, IllegalArgumentException {
        needParty(party);
        needParty(other);
        needTwo(party, other);
        return port.debtOf(party, other);
    }

    public int cleared() {
        return port.clearedWithout(NONE);
    }

    public boolean ring(int party) throws IndexOutOfBoundsException {
        needParty(party);
        int reached = port.creditorsOf(party);
        // Each round goes one debt farther, and no way without a ring is longer than the parties.
        for (int round = 0; round < MOST_PARTIES; round++) {
            for (int i = 0; i < port.partyCount; i++) {
                if ((reached >> i & 1) == 1) {
                    reached |= port.creditorsOf(i);
                }
            }
        }
        return (reached >> party & 1) == 1;
    }

    public int pivot() {
        int spared = NONE;
        int least = 0;
        for (int i = 0; i < port.partyCount; i++) {
            int rest = port.clearedWithout(i);
            if (spared == NONE || rest < least) {
                least = rest;
                spared = i;
            }
        }
        return spared;
    }

    // ---- buyers, heirs, odds ----

    public int buyers(int deed) throws IndexOutOfBoundsException {
        if (deed != NONE) {
            needDeed(deed);
        }
        fillWhens(0);
        market.open(port, whens);
        return deed == NONE ? market.most() : market.buyerOf(port, deed);
    }

    public int rests(int party, int other, int deed) throws IndexOutOfBoundsException, IllegalArgumentException {
        needParty(party);
        needParty(other);
        needDeed(deed);
        needTwo(party, other);
        if (port.deeds[deed].state != BLANK) {
            return NONE;
        }
        int set = 0;
        for (int choice = 0; choice < 4; choice++) {
            boolean firstWarms = choice < 2;
            boolean otherWarms = choice % 2 == 0;
            if (port.gainOf(party, deed, firstWarms, otherWarms) >= port.gainOf(party, deed, !firstWarms, otherWarms)
                    && port.gainOf(other, deed, otherWarms, firstWarms) >= port.gainOf(other, deed, !otherWarms, firstWarms)) {
                set |= 1 << choice;
            }
        }
        return set;
    }

    public int odds(int n, int k) throws IllegalArgumentException {
        if (n < 0 || n > 6 || k < 0 || k > 6) {
            throw new IllegalArgumentException();
        }
        long good = 0;
        for (int sprays = k; sprays <= n; sprays++) {
            good += choose(n, sprays) * power(port.spray, sprays) * power(100 - port.spray, n - sprays);
        }
        return (int) (good * 10000L / Math.max(1L, power(100, n)));
    }

    public int early(int deed) throws IndexOutOfBoundsException {
        needDeed(deed);
        if (port.deeds[deed].state != BLANK) {
            return 0;
        }
        fillWhens(0);
        int dry = whens[deed];
        fillWhens(1);
        int wet = whens[deed];
        return dry == NONE || wet == NONE ? 0 : dry - wet;
    }

    public int richest() {
        int richest = NONE;
        int most = NONE;
        for (int i = 0; i < port.partyCount; i++) {
            if (port.parties[i].coins > most) {
                most = port.parties[i].coins;
                richest = i;
            }
        }
        return richest;
    }

    public int alike() {
        int pairs = 0;
        for (int i = 0; i < port.deedCount; i++) {
            for (int j = i + 1; j < port.deedCount; j++) {
                if (port.deeds[i].isLike(port.deeds[j])) {
                    pairs++;
                }
            }
        }
        return pairs;
    }

    public int broken() {
        return port.brokeParties();
    }

    // ---- seasons that do not stay ----

    public int ahead(int deed, int n, int what) throws IndexOutOfBoundsException, IllegalArgumentException, NoSuchElementException {
        needDeed(deed);
        needSpan(n);
        if (what < 0 || what > 2) {
            throw new NoSuchElementException();
        }
        goAhead(n);
        Deed then = draft.deeds[deed];
        if (what == 0) {
            return then.ripe;
        }
        return what == 1 ? then.state : then.isPaid ? 1 : 0;
    }

    public int trial(int n, boolean broke) throws IllegalArgumentException {
        needSpan(n);
        tryOut(n, port.seed);
        return broke ? draft.brokeParties() : draft.inState(READABLE);
    }

    public int span(int n, boolean most) throws IllegalArgumentException {
        needSpan(n);
        int least = MOST_DEEDS;
        int greatest = 0;
        for (int start = 1; start <= 6; start++) {
            tryOut(n, start);
            int paid = Integer.bitCount(draft.paidDeeds());
            least = Math.min(least, paid);
            greatest = Math.max(greatest, paid);
        }
        return most ? greatest : least;
    }

    // ---- the log, the seed, what is undone, the image, counts ----

    public int led(int deed, boolean time) throws IndexOutOfBoundsException {
        needDeed(deed);
        return time ? port.book.latestTimeOf(deed) : port.book.rowsOf(deed);
    }

    public int log(int ago, int what) throws NoSuchElementException {
        if (what < 0 || what >= LogBook.CELLS) {
            throw new NoSuchElementException();
        }
        return port.book.tell(ago, what);
    }

    public int damp(int season) throws IndexOutOfBoundsException {
        if (season < 0 || season >= SEASONS_OF_YEAR) {
            throw new IndexOutOfBoundsException();
        }
        return port.damp[season];
    }

    public int seed(int n) {
        int before = port.seed;
        port.seed = n;
        return before;
    }

    public boolean undo() {
        if (rememberedCount == 0) {
            return false;
        }
        rememberedNext = (rememberedNext + MOST_REMEMBERED - 1) % MOST_REMEMBERED;
        rememberedCount--;
        port.become(remembered[rememberedNext]);
        return true;
    }

    public void image() {
        kept.become(port);
        isKept = true;
    }

    public boolean back() {
        if (!isKept) {
            return false;
        }
        port.become(kept);
        forgetActs();
        return true;
    }

    public int count(int what) {
        switch (what) {
            case 0:
                return port.partyCount;
            case 1:
                return port.inkCount;
            case 2:
                return port.deedCount;
            case 3:
                return port.texts;
            case 4:
                return port.law == null ? NONE : port.law.lineCount;
            case 5:
                return port.time;
            case 6:
                return port.salt;
            case 7:
                return port.spray;
            case 8:
                return port.allCoins();
            case 9:
                return port.paidDeeds();
            case 10:
                return port.book.count;
            case 11:
                return rememberedCount;
            default:
                return NONE;
        }
    }

    // ---- helpers of the face ----

    private void needParty(int party) {
        if (party < 0 || party >= port.partyCount) {
            throw new IndexOutOfBoundsException();
        }
    }

    private void needInk(int ink) {
        if (ink < 0 || ink >= port.inkCount) {
            throw new IndexOutOfBoundsException();
        }
    }

    private void needDeed(int deed) {
        if (deed < 0 || deed >= port.deedCount) {
            throw new IndexOutOfBoundsException();
        }
    }

    private static void needTwo(int party, int other) {
        if (party == other) {
            throw new IllegalArgumentException();
        }
    }

    private static void needSpan(int n) {
        if (n < 0 || n > FARTHEST) {
            throw new IllegalArgumentException();
        }
    }

    private void putBytes(int number) {
        for (int shift = 24; shift >= 0; shift -= 8) {
            if (tapeLength < TAPE_BYTES) {
                tape[tapeLength] = number >>> shift & 255;
                tapeLength++;
            }
        }
    }

    private void readSheets() {
        int length = tapeLength;
        tapeLength = 0;
        if (!sheets.take(tape, length)) {
            throw new IllegalArgumentException();
        }
    }

    private void rememberAct() {
        remembered[rememberedNext].become(port);
        rememberedNext = (rememberedNext + 1) % MOST_REMEMBERED;
        rememberedCount = Math.min(rememberedCount + 1, MOST_REMEMBERED);
    }

    private void forgetActs() {
        rememberedCount = 0;
    }

    private void goAhead(int n) {
        draft.become(port);
        for (int i = 0; i < n; i++) {
            draft.passSeason(0);
        }
    }

    private void tryOut(int n, int start) {
        draft.become(port);
        draft.seed = start;
        for (int i = 0; i < n; i++) {
            draft.passSeason(draft.drawSpray());
        }
    }

    private void fillWhens(int spray) {
        draft.become(port);
        Arrays.fill(whens, NONE);
        for (int n = 0; n <= FARTHEST; n++) {
            for (int i = 0; i < draft.deedCount; i++) {
                if (whens[i] == NONE && draft.deeds[i].up != NONE) {
                    whens[i] = n;
                }
            }
            if (draft.inState(BLANK) == 0) {
                return;
            }
            draft.passSeason(spray);
        }
    }

    private void fillCosts() {
        for (int i = 0; i < port.deedCount; i++) {
            costs[i] = port.costsOf(i);
        }
    }

    private int costsOfSet(int set) {
        int all = 0;
        for (int i = 0; i < port.deedCount; i++) {
            if ((set >> i & 1) == 1) {
                all += costs[i];
            }
        }
        return all;
    }

    private static int leastOf(int set) {
        for (int i = 0; i < MOST_PARTIES; i++) {
            if ((set >> i & 1) == 1) {
                return i;
            }
        }
        return NONE;
    }

    private static long power(int base, int times) {
        long all = 1;
        for (int i = 0; i < times; i++) {
            all *= base;
        }
        return all;
    }

    private static long choose(int n, int k) {
        long ways = 1;
        for (int i = 1; i <= k; i++) {
            ways = ways * (n - k + i) / i;
        }
        return ways;
    }

    // ---- parts of the port ----

    private static final class Party {
        int coins = 0;
        boolean isBroke = false;

        void become(Party other) {
            coins = other.coins;
            isBroke = other.isBroke;
        }
    }

    private static final class Ink {
        int age = 1;
        int keeps = 0;
        int soaks = 0;

        void become(Ink other) {
            age = other.age;
            keeps = other.keeps;
            soaks = other.soaks;
        }

        int soaksUp(int dampness) {
            return soaks * dampness / 10;
        }
    }

    private static final class Deed {
        static final int TOLD = 12;

        int ink = 0;
        int debtor = 0;
        int creditor = 0;
        int sum = 0;
        int term = 0;
        int leansOn = NONE;
        int barredBy = NONE;
        int written = 0;
        int ripe = 0;
        int up = NONE;
        int state = BLANK;
        boolean isPaid = false;

        void become(Deed other) {
            ink = other.ink;
            debtor = other.debtor;
            creditor = other.creditor;
            sum = other.sum;
            term = other.term;
            leansOn = other.leansOn;
            barredBy = other.barredBy;
            written = other.written;
            ripe = other.ripe;
            up = other.up;
            state = other.state;
            isPaid = other.isPaid;
        }

        void beginAt(int time) {
            leansOn = NONE;
            barredBy = NONE;
            written = time;
            ripe = 0;
            up = NONE;
            state = BLANK;
            isPaid = false;
        }

        boolean isOf(int party) {
            return debtor == party || creditor == party;
        }

        boolean isLike(Deed other) {
            return ink == other.ink && debtor == other.debtor && creditor == other.creditor && sum == other.sum;
        }

        int tell(int what) {
            switch (what) {
                case 0:
                    return ink;
                case 1:
                    return debtor;
                case 2:
                    return creditor;
                case 3:
                    return sum;
                case 4:
                    return term;
                case 5:
                    return leansOn;
                case 6:
                    return barredBy;
                case 7:
                    return written;
                case 8:
                    return ripe;
                case 9:
                    return up;
                case 10:
                    return state;
                default:
                    return isPaid ? 1 : 0;
            }
        }
    }

    /** The latest rows, in a ring; a row is TIME, the DEED, what happened, COINS. */
    private static final class LogBook {
        static final int CELLS = 4;
        static final int MOST_ROWS = 60;

        final int[] cells = new int[CELLS * MOST_ROWS];
        int count = 0;
        int next = 0;

        void become(LogBook other) {
            System.arraycopy(other.cells, 0, cells, 0, cells.length);
            count = other.count;
            next = other.next;
        }

        void add(int time, int deed, int happened, int coins) {
            int at = next * CELLS;
            cells[at] = time;
            cells[at + 1] = deed;
            cells[at + 2] = happened;
            cells[at + 3] = coins;
            next = (next + 1) % MOST_ROWS;
            count = Math.min(count + 1, MOST_ROWS);
        }

        int tell(int ago, int what) {
            if (ago < 0 || ago >= count) {
                return NONE;
            }
            int row = (next + MOST_ROWS - 1 - ago) % MOST_ROWS;
            return cells[row * CELLS + what];
        }

        int rowsOf(int deed) {
            int rows = 0;
            for (int ago = 0; ago < count; ago++) {
                if (tell(ago, 1) == deed) {
                    rows++;
                }
            }
            return rows;
        }

        int latestTimeOf(int deed) {
            for (int ago = 0; ago < count; ago++) {
                if (tell(ago, 1) == deed) {
                    return tell(ago, 0);
                }
            }
            return NONE;
        }
    }

    /** All that is undone together and that an image keeps. */
    private static final class Port {
        final Party[] parties = new Party[MOST_PARTIES];
        int partyCount = 0;
        final Ink[] inks = new Ink[MOST_INKS];
        int inkCount = 0;
        final Deed[] deeds = new Deed[MOST_DEEDS];
        int deedCount = 0;
        final int[] damp = {2, 2, 2, 2};
        int salt = 1;
        int spray = 0;
        int time = 0;
        int seed = 1;
        int texts = 0;
        // A law never changes once it is read, so ports may share one.
        Law law = null;
        final LogBook book = new LogBook();
        final int[] facts = new int[Law.FACTS];

        Port() {
            for (int i = 0; i < MOST_PARTIES; i++) {
                parties[i] = new Party();
            }
            for (int i = 0; i < MOST_INKS; i++) {
                inks[i] = new Ink();
            }
            for (int i = 0; i < MOST_DEEDS; i++) {
                deeds[i] = new Deed();
            }
        }

        void become(Port other) {
            partyCount = other.partyCount;
            inkCount = other.inkCount;
            deedCount = other.deedCount;
            for (int i = 0; i < partyCount; i++) {
                parties[i].become(other.parties[i]);
            }
            for (int i = 0; i < inkCount; i++) {
                inks[i].become(other.inks[i]);
            }
            for (int i = 0; i < deedCount; i++) {
                deeds[i].become(other.deeds[i]);
            }
            System.arraycopy(other.damp, 0, damp, 0, damp.length);
            salt = other.salt;
            spray = other.spray;
            time = other.time;
            seed = other.seed;
            texts = other.texts;
            law = other.law;
            book.become(other.book);
        }

        /** Callers see to it that there is room for one more. */
        Deed addDeed() {
            Deed added = deeds[deedCount];
            added.beginAt(time);
            deedCount++;
            return added;
        }

        // -- a season --

        int drawSpray() {
            seed = 1103515245 * seed + 12345;
            int draw = seed >>> 16 & 32767;
            return draw % 100 < spray ? 1 : 0;
        }

        int passSeason(int sprayNow) {
            ripenBlankDeeds(sprayNow);
            fadeOldDeeds();
            int paid = payDueDeeds();
            time = Math.min(time + 1, MOST_TIME);
            return paid;
        }

        void ripenBlankDeeds(int sprayNow) {
            for (int i = 0; i < deedCount; i++) {
                Deed deed = deeds[i];
                if (deed.state == BLANK) {
                    deed.ripe = Math.min(deed.ripe + ripensBy(i) + sprayNow, MOST_RIPE);
                    if (deed.ripe >= inks[deed.ink].age) {
                        comeUp(i);
                    }
                }
            }
        }

        void fadeOldDeeds() {
            for (int i = 0; i < deedCount; i++) {
                Deed deed = deeds[i];
                int keeps = inks[deed.ink].keeps;
                if (deed.state == READABLE && keeps > 0 && time - deed.up >= keeps) {
                    deed.state = FADED;
                    book.add(time, i, FADED_AWAY, 0);
                }
            }
        }

        int payDueDeeds() {
            int readable = inState(READABLE);
            int paid = 0;
            for (int i = 0; i < deedCount; i++) {
                Deed deed = deeds[i];
                if (isValid(i, readable) && !deed.isPaid && time - deed.up >= deed.term) {
                    pay(i);
                    paid++;
                }
            }
            return paid;
        }

        void pay(int number) {
            Deed deed = deeds[number];
            Party debtor = parties[deed.debtor];
            Party creditor = parties[deed.creditor];
            boolean inFull = debtor.coins >= deed.sum;
            int coins = inFull ? deed.sum : debtor.coins;
            debtor.coins -= coins;
            creditor.coins = Math.min(creditor.coins + coins, MOST_COINS);
            if (!inFull) {
                debtor.isBroke = true;
            }
            deed.isPaid = true;
            book.add(time, number, inFull ? PAID_IN_FULL : PAID_BY_BROKE, coins);
        }

        void comeUp(int number) {
            deeds[number].state = READABLE;
            deeds[number].up = time;
            book.add(time, number, CAME_UP, 0);
        }

        void halveNextBlank(int number) {
            for (int i = number + 1; i < deedCount; i++) {
                if (deeds[i].state == BLANK) {
                    deeds[i].ripe /= 2;
                    return;
                }
            }
        }

        // -- the law --

        int ripensBy(int number) {
            int by = 1 + inks[deeds[number].ink].soaksUp(damp[time % SEASONS_OF_YEAR]);
            if (law != null) {
                lookAt(number);
                by += law.total(Law.RIPE, facts) - law.total(Law.SLOW, facts);
            }
            return Math.max(by, 0);
        }

        int costsOf(int number) {
            int all = salt;
            if (law != null) {
                lookAt(number);
                all += law.total(Law.COST, facts);
            }
            return all;
        }

        void lookAt(int number) {
            Deed deed = deeds[number];
            int season = time % SEASONS_OF_YEAR;
            facts[Law.THE_DEED] = number;
            facts[Law.THE_INK] = deed.ink;
            facts[Law.THE_SUM] = deed.sum;
            facts[Law.THE_RIPE] = deed.ripe;
            facts[Law.THE_SEASON] = season;
            facts[Law.THE_DAMP] = damp[season];
            facts[Law.THE_SALT] = salt;
            facts[Law.LEANING] = deed.leansOn == NONE ? 0 : 1;
            facts[Law.BARRED] = deed.barredBy == NONE ? 0 : 1;
        }

        // -- deeds as bits --

        int inState(int state) {
            int set = 0;
            for (int i = 0; i < deedCount; i++) {
                if (deeds[i].state == state) {
                    set |= 1 << i;
                }
            }
            return set;
        }

        int paidDeeds() {
            int set = 0;
            for (int i = 0; i < deedCount; i++) {
                if (deeds[i].isPaid) {
                    set |= 1 << i;
                }
            }
            return set;
        }

        int deedsOfInk(int ink) {
            int set = 0;
            for (int i = 0; i < deedCount; i++) {
                if (deeds[i].ink == ink) {
                    set |= 1 << i;
                }
            }
            return set;
        }

        int chainOf(int number) {
            int set = 1 << number;
            // A deed leans on one of a lesser number only, so one way down meets the whole chain.
            for (int i = number; i >= 0; i--) {
                if ((set >> i & 1) == 1 && deeds[i].leansOn != NONE) {
                    set |= 1 << deeds[i].leansOn;
                }
            }
            return set;
        }

        boolean isValid(int number, int readable) {
            Deed deed = deeds[number];
            return (readable >> number & 1) == 1
                    && (deed.leansOn == NONE || (readable >> deed.leansOn & 1) == 1)
                    && (deed.barredBy == NONE || (readable >> deed.barredBy & 1) == 0);
        }

        // -- readings --

        int readingOf(int set) {
            return inState(READABLE) | set & inState(BLANK);
        }

        int netOf(int party, int readable) {
            int all = 0;
            for (int i = 0; i < deedCount; i++) {
                Deed deed = deeds[i];
                if (deed.isOf(party) && !deed.isPaid && isValid(i, readable)) {
                    all += deed.creditor == party ? deed.sum : -deed.sum;
                }
            }
            return all;
        }

        int leastNet(int party) {
            int readable = inState(READABLE);
            int blanks = inState(BLANK);
            int least = netOf(party, readable);
            for (int set = 1; set <= blanks; set++) {
                if ((set & ~blanks) == 0) {
                    least = Math.min(least, netOf(party, readable | set));
                }
            }
            return least;
        }

        int bestReading(int party) {
            int readable = inState(READABLE);
            int blanks = inState(BLANK);
            int bestSet = 0;
            int most = netOf(party, readable);
            for (int set = 1; set <= blanks; set++) {
                if ((set & ~blanks) == 0) {
                    int gain = netOf(party, readable | set);
                    if (gain > most) {
                        most = gain;
                        bestSet = set;
                    }
                }
            }
            return bestSet;
        }

        int meanNet(int party) {
            int readable = inState(READABLE);
            int blanks = inState(BLANK);
            int all = 0;
            int readings = 0;
            for (int set = 0; set <= blanks; set++) {
                if ((set & ~blanks) == 0) {
                    all += netOf(party, readable | set);
                    readings++;
                }
            }
            return readings == 0 ? 0 : all / readings;
        }

        // -- inks by the reckoning of jars --

        /** The first TIME at which a sheet of this ink can be read: no law and no spray. */
        int showsAt(int ink, int written) {
            int ripe = 0;
            int at = written;
            // Each season ripens by 1 at least, so as many seasons as the age are enough.
            for (int i = 0; i < inks[ink].age && ripe < inks[ink].age; i++) {
                ripe += 1 + inks[ink].soaksUp(damp[at % SEASONS_OF_YEAR]);
                at++;
            }
            return at;
        }

        boolean tellsInksApart(int seasonSet) {
            for (int i = 0; i < inkCount; i++) {
                for (int j = i + 1; j < inkCount; j++) {
                    if (inks[i].soaks != inks[j].soaks && !differIn(inks[i], inks[j], seasonSet)) {
                        return false;
                    }
                }
            }
            return true;
        }

        boolean differIn(Ink one, Ink two, int seasonSet) {
            for (int season = 0; season < SEASONS_OF_YEAR; season++) {
                if ((seasonSet >> season & 1) == 1 && one.soaksUp(damp[season]) != two.soaksUp(damp[season])) {
                    return true;
                }
            }
            return false;
        }

        // -- coins and debts --

        int allCoins() {
            int all = 0;
            for (int i = 0; i < partyCount; i++) {
                all += parties[i].coins;
            }
            return all;
        }

        int shareOf(int party) {
            int all = allCoins();
            return all == 0 ? 0 : parties[party].coins * 100 / all;
        }

        int brokeParties() {
            int set = 0;
            for (int i = 0; i < partyCount; i++) {
                if (parties[i].isBroke) {
                    set |= 1 << i;
                }
            }
            return set;
        }

        int debtOf(int party, int other) {
            int readable = inState(READABLE);
            int all = 0;
            for (int i = 0; i < deedCount; i++) {
                Deed deed = deeds[i];
                if (deed.isOf(party) && deed.isOf(other) && !deed.isPaid && isValid(i, readable)) {
                    all += deed.debtor == party ? deed.sum : -deed.sum;
                }
            }
            return Math.max(all, 0);
        }

        int creditorsOf(int party) {
            int set = 0;
            for (int i = 0; i < partyCount; i++) {
                if (i != party && debtOf(party, i) > 0) {
                    set |= 1 << i;
                }
            }
            return set;
        }

        int clearedWithout(int missing) {
            int readable = inState(READABLE);
            int all = 0;
            for (int party = 0; party < partyCount; party++) {
                int owed = 0;
                for (int i = 0; i < deedCount; i++) {
                    Deed deed = deeds[i];
                    if (deed.isOf(party) && !deed.isOf(missing) && !deed.isPaid && isValid(i, readable)) {
                        owed += deed.debtor == party ? deed.sum : -deed.sum;
                    }
                }
                all += Math.max(owed, 0);
            }
            return all;
        }

        // -- prices and choices --

        int priceOf(int number, int whenUp) {
            Deed deed = deeds[number];
            return deed.state != BLANK || whenUp == NONE ? 0 : Math.max(deed.sum - whenUp, 0);
        }

        int gainOf(int party, int number, boolean warms, boolean otherWarms) {
            if (!warms && !otherWarms) {
                return 0;
            }
            Deed deed = deeds[number];
            int gain = deed.creditor == party ? deed.sum : deed.debtor == party ? -deed.sum : 0;
            if (warms) {
                int price = costsOf(number);
                gain -= otherWarms ? price / 2 : price;
            }
            return gain;
        }
    }

    /** Lines with their conditions, each as codes for a stack: numbers as they are, all else below 0. */
    private static final class Law {
        static final int RIPE = 0;
        static final int SLOW = 1;
        static final int COST = 2;

        static final int THE_DEED = 0;
        static final int THE_INK = 1;
        static final int THE_SUM = 2;
        static final int THE_RIPE = 3;
        static final int THE_SEASON = 4;
        static final int THE_DAMP = 5;
        static final int THE_SALT = 6;
        static final int LEANING = 7;
        static final int BARRED = 8;
        static final int FACTS = 9;

        static final int FIRST_FACT = -1;
        static final int PLUS = -11;
        static final int LESS = -12;
        static final int MORE = -13;
        static final int AND = -14;
        static final int OR = -15;
        static final int NOT = -16;

        // Six deep, each depth holds back an or, an and and a sum at most.
        static final int STACK = 40;

        final int[] codes;
        int codeCount = 0;
        final int[] kinds = new int[MOST_LAW_LINES];
        final int[] amounts = new int[MOST_LAW_LINES];
        final int[] ends = new int[MOST_LAW_LINES];
        int lineCount = 0;
        final int[] stack = new int[STACK];

        Law(int textLength) {
            codes = new int[Math.max(textLength, 0)];
        }

        void addCode(int code) {
            if (codeCount < codes.length) {
                codes[codeCount] = code;
                codeCount++;
            }
        }

        void addLine(int kind, int amount) {
            if (lineCount < MOST_LAW_LINES) {
                kinds[lineCount] = kind;
                amounts[lineCount] = amount;
                ends[lineCount] = codeCount;
                lineCount++;
            }
        }

        int total(int kind, int[] facts) {
            int all = 0;
            int begin = 0;
            for (int line = 0; line < lineCount; line++) {
                if (kinds[line] == kind && holds(begin, ends[line], facts)) {
                    all += amounts[line];
                }
                begin = ends[line];
            }
            return all;
        }

        boolean holds(int begin, int end, int[] facts) {
            int top = 0;
            for (int i = begin; i < end && top < STACK; i++) {
                int code = codes[i];
                if (code >= 0) {
                    stack[top++] = code;
                } else if (FIRST_FACT - code < facts.length) {
                    stack[top++] = facts[FIRST_FACT - code];
                } else if (code == NOT && top >= 1) {
                    stack[top - 1] = 1 - stack[top - 1];
                } else if (top >= 2) {
                    top--;
                    stack[top - 1] = joined(code, stack[top - 1], stack[top]);
                }
            }
            return top == 0 || stack[top - 1] != 0;
        }

        static int joined(int code, int left, int right) {
            switch (code) {
                case PLUS:
                    return left + right;
                case LESS:
                    return left < right ? 1 : 0;
                case MORE:
                    return left > right ? 1 : 0;
                case AND:
                    return left & right;
                default:
                    return left | right;
            }
        }
    }

    // ---- readers of texts ----

    /** Goes through a text thing by thing: a word, a number, another sign, or the end. */
    private static final class Reader {
        static final int AT_END = 0;
        static final int AT_WORD = 1;
        static final int AT_NUMBER = 2;
        static final int AT_SIGN = 3;
        static final int MOST_DIGITS = 3;

        int[] bytes = new int[0];
        int length = 0;
        int kind = AT_END;
        int start = 0;
        int next = 0;
        // NONE, if it has too many digits: then it is out of all bounds.
        int value = 0;
        int wrongByte = NONE;

        void open(int[] text, int textLength) {
            bytes = text;
            length = Math.min(textLength, text.length);
            next = 0;
            wrongByte = NONE;
            advance();
        }

        void advance() {
            while (next < length && bytes[next] == ' ') {
                next++;
            }
            start = next;
            kind = AT_END;
            value = 0;
            while (next < length && bytes[next] >= 'a' && bytes[next] <= 'z') {
                kind = AT_WORD;
                next++;
            }
            while (kind != AT_WORD && next < length && bytes[next] >= '0' && bytes[next] <= '9') {
                kind = AT_NUMBER;
                value = next - start < MOST_DIGITS ? value * 10 + bytes[next] - '0' : NONE;
                next++;
            }
            if (kind == AT_END && next < length) {
                kind = AT_SIGN;
                next++;
            }
        }

        boolean isAtWord(String word) {
            if (kind != AT_WORD || next - start != word.length()) {
                return false;
            }
            for (int i = 0; i < word.length(); i++) {
                if (bytes[start + i] != word.charAt(i)) {
                    return false;
                }
            }
            return true;
        }

        boolean isAtSign(char sign) {
            return kind == AT_SIGN && bytes[start] == sign;
        }

        boolean takesWord(String word) {
            boolean isThere = isAtWord(word);
            if (isThere) {
                advance();
            }
            return isThere;
        }

        void needWord(String word) {
            if (!takesWord(word)) {
                refuse();
            }
        }

        void needSign(char sign) {
            if (!isAtSign(sign)) {
                refuse();
            }
            advance();
        }

        int needNumber(int least, int most) {
            if (kind != AT_NUMBER || value < least || value > most) {
                refuse();
            }
            int number = value;
            advance();
            return number;
        }

        /** Whether another line comes; refuses what is neither a line's end nor the text's. */
        boolean goesOn() {
            if (kind == AT_END) {
                return false;
            }
            needSign(';');
            return true;
        }

        void refuse() {
            wrongByte = start;
            throw new IllegalArgumentException();
        }
    }

    /** Reads a text of THE PORT into a port; one that is wrong leaves that port half told. */
    private static final class PortText {
        static void readInto(Port port, Reader reader) {
            if (reader.kind == Reader.AT_END) {
                return;
            }
            for (int line = 0; line < MOST_PORT_LINES; line++) {
                readLine(port, reader);
                if (!reader.goesOn()) {
                    return;
                }
            }
            reader.refuse();
        }

        static void readLine(Port port, Reader reader) {
            if (reader.isAtWord("party")) {
                readParty(port, reader);
            } else if (reader.isAtWord("ink")) {
                readInk(port, reader);
            } else if (reader.isAtWord("deed")) {
                readDeed(port, reader);
            } else if (reader.isAtWord("time")) {
                readTime(port, reader);
            } else if (reader.takesWord("damp")) {
                int season = needSeason(reader);
                port.damp[season] = reader.needNumber(0, 9);
            } else if (reader.takesWord("salt")) {
                port.salt = reader.needNumber(0, MOST_SALT);
            } else {
                reader.needWord("spray");
                port.spray = reader.needNumber(0, 100);
            }
        }

        static void readParty(Port port, Reader reader) {
            if (port.partyCount >= MOST_PARTIES) {
                reader.refuse();
            }
            reader.advance();
            Party party = port.parties[port.partyCount];
            party.coins = reader.needNumber(0, MOST_NUMBER);
            party.isBroke = false;
            port.partyCount++;
        }

        static void readInk(Port port, Reader reader) {
            if (port.inkCount >= MOST_INKS) {
                reader.refuse();
            }
            reader.advance();
            reader.needWord("age");
            Ink ink = port.inks[port.inkCount];
            ink.age = reader.needNumber(1, 99);
            ink.keeps = reader.takesWord("keeps") ? reader.needNumber(0, 99) : 0;
            ink.soaks = reader.takesWord("soaks") ? reader.needNumber(0, 9) : 0;
            port.inkCount++;
        }

        static void readDeed(Port port, Reader reader) {
            if (port.deedCount >= MOST_DEEDS) {
                reader.refuse();
            }
            reader.advance();
            int lastDeed = port.deedCount - 1;
            Deed deed = port.addDeed();
            reader.needWord("ink");
            deed.ink = reader.needNumber(0, port.inkCount - 1);
            reader.needWord("from");
            deed.debtor = reader.needNumber(0, port.partyCount - 1);
            reader.needWord("to");
            if (reader.kind == Reader.AT_NUMBER && reader.value == deed.debtor) {
                reader.refuse();
            }
            deed.creditor = reader.needNumber(0, port.partyCount - 1);
            reader.needWord("sum");
            deed.sum = reader.needNumber(0, MOST_SUM);
            deed.term = reader.takesWord("term") ? reader.needNumber(0, MOST_TERM) : 0;
            deed.leansOn = reader.takesWord("on") ? reader.needNumber(0, lastDeed) : NONE;
            deed.barredBy = reader.takesWord("but") ? reader.needNumber(0, lastDeed) : NONE;
        }

        static void readTime(Port port, Reader reader) {
            if (port.deedCount > 0) {
                reader.refuse();
            }
            reader.advance();
            port.time = reader.needNumber(0, MOST_NUMBER);
        }

        static int needSeason(Reader reader) {
            if (reader.takesWord("spring")) {
                return 0;
            }
            if (reader.takesWord("summer")) {
                return 1;
            }
            if (reader.takesWord("autumn")) {
                return 2;
            }
            reader.needWord("winter");
            return 3;
        }
    }

    /** Reads a text of THE LAW into a new law, conditions as codes in the order in which a stack takes them. */
    private static final class LawText {
        static final int DEEPEST = 6;
        static final int MOST_AMOUNT = 40;

        static void readInto(Law law, Reader reader) {
            if (reader.kind == Reader.AT_END) {
                return;
            }
            for (int line = 0; line < MOST_LAW_LINES; line++) {
                int kind = needKind(reader);
                int amount = reader.needNumber(0, MOST_AMOUNT);
                if (reader.takesWord("if")) {
                    readCondition(law, reader, 0);
                }
                law.addLine(kind, amount);
                if (!reader.goesOn()) {
                    return;
                }
            }
            reader.refuse();
        }

        private static int needKind(Reader reader) {
            if (reader.takesWord("ripe")) {
                return Law.RIPE;
            }
            if (reader.takesWord("slow")) {
                return Law.SLOW;
            }
            reader.needWord("cost");
            return Law.COST;
        }

        private static void readCondition(Law law, Reader reader, int depth) {
            readAtom(law, reader, depth);
            // An or waits for its code till what is joined to its right by and is whole.
            boolean orWaits = false;
            for (int i = 0; i < TAPE_BYTES; i++) {
                if (reader.takesWord("and")) {
                    readAtom(law, reader, depth);
                    law.addCode(Law.AND);
                } else {
                    if (orWaits) {
                        law.addCode(Law.OR);
                    }
                    if (!reader.takesWord("or")) {
                        return;
                    }
                    orWaits = true;
                    readAtom(law, reader, depth);
                }
            }
        }

        private static void readAtom(Law law, Reader reader, int depth) {
            boolean isNot = reader.isAtWord("not");
            if (isNot || reader.isAtSign('(')) {
                if (depth >= DEEPEST) {
                    reader.refuse();
                }
                reader.advance();
                if (isNot) {
                    readAtom(law, reader, depth + 1);
                    law.addCode(Law.NOT);
                } else {
                    readCondition(law, reader, depth + 1);
                    reader.needSign(')');
                }
            } else if (reader.takesWord("leaning")) {
                law.addCode(Law.FIRST_FACT - Law.LEANING);
            } else if (reader.takesWord("barred")) {
                law.addCode(Law.FIRST_FACT - Law.BARRED);
            } else {
                readSum(law, reader);
                boolean isLess = reader.isAtSign('<');
                reader.needSign(isLess ? '<' : '>');
                readSum(law, reader);
                law.addCode(isLess ? Law.LESS : Law.MORE);
            }
        }

        private static void readSum(Law law, Reader reader) {
            for (int i = 0; i < TAPE_BYTES && (i == 0 || reader.isAtSign('+')); i++) {
                if (i > 0) {
                    reader.advance();
                }
                int fact = factAtWord(reader);
                if (fact == NONE) {
                    law.addCode(reader.needNumber(0, MOST_NUMBER));
                } else {
                    reader.advance();
                    law.addCode(Law.FIRST_FACT - fact);
                }
                if (i > 0) {
                    law.addCode(Law.PLUS);
                }
            }
        }

        private static int factAtWord(Reader reader) {
            if (reader.isAtWord("deed")) {
                return Law.THE_DEED;
            }
            if (reader.isAtWord("ink")) {
                return Law.THE_INK;
            }
            if (reader.isAtWord("sum")) {
                return Law.THE_SUM;
            }
            if (reader.isAtWord("ripe")) {
                return Law.THE_RIPE;
            }
            if (reader.isAtWord("season")) {
                return Law.THE_SEASON;
            }
            if (reader.isAtWord("damp")) {
                return Law.THE_DAMP;
            }
            return reader.isAtWord("salt") ? Law.THE_SALT : NONE;
        }
    }

    // ---- jars and buyers ----

    /** What was told of an unknown sheet, and which inks and times of writing fit it. */
    private static final class Jars {
        static final int MOST_BYTES = 40;
        static final int LAST_TIME = 60;
        static final int LAST_WRITTEN = 20;

        final int[] rows = new int[MOST_BYTES];
        int length = 0;
        final int[] readersAt = new int[LAST_TIME + 1];

        boolean take(int[] bytes, int byteCount) {
            if (byteCount > MOST_BYTES || byteCount > bytes.length || byteCount % 2 != 0) {
                return false;
            }
            for (int i = 0; i < byteCount; i++) {
                if (bytes[i] > (i % 2 == 0 ? LAST_TIME : 1)) {
                    return false;
                }
                rows[i] = bytes[i];
            }
            length = byteCount;
            return true;
        }

        static boolean isReadAt(int time, int from, int keeps) {
            return time >= from && (keeps == 0 || time < from + keeps);
        }

        boolean fits(int from, int keeps) {
            for (int i = 0; i + 1 < length; i += 2) {
                if (isReadAt(rows[i], from, keeps) != (rows[i + 1] == 1)) {
                    return false;
                }
            }
            return true;
        }

        int fittingOf(Port port, int ink) {
            int pairs = 0;
            for (int written = 0; written <= LAST_WRITTEN; written++) {
                if (fits(port.showsAt(ink, written), port.inks[ink].keeps)) {
                    pairs++;
                }
            }
            return pairs;
        }

        int fittingPairs(Port port) {
            int pairs = 0;
            for (int i = 0; i < port.inkCount; i++) {
                pairs += fittingOf(port, i);
            }
            return pairs;
        }

        int fittingInks(Port port) {
            int set = 0;
            for (int i = 0; i < port.inkCount; i++) {
                if (fittingOf(port, i) > 0) {
                    set |= 1 << i;
                }
            }
            return set;
        }

        void countReaders(Port port, int ink) {
            int keeps = port.inks[ink].keeps;
            for (int written = 0; written <= LAST_WRITTEN; written++) {
                int from = port.showsAt(ink, written);
                if (fits(from, keeps)) {
                    for (int time = from; time <= LAST_TIME && isReadAt(time, from, keeps); time++) {
                        readersAt[time]++;
                    }
                }
            }
        }

        int bestTime(Port port) {
            int pairs = fittingPairs(port);
            if (pairs < 2) {
                return NONE;
            }
            Arrays.fill(readersAt, 0);
            for (int i = 0; i < port.inkCount; i++) {
                countReaders(port, i);
            }
            int best = 0;
            int least = pairs + 1;
            for (int time = 0; time <= LAST_TIME; time++) {
                int greater = Math.max(readersAt[time], pairs - readersAt[time]);
                if (greater < least) {
                    least = greater;
                    best = time;
                }
            }
            return best;
        }
    }

    /** Blank deeds matched with buyers: the most that deeds from one on bring, by who has bought already. */
    private static final class Market {
        static final int BUYER_SETS = 1 << MOST_PARTIES;

        final int[] prices = new int[MOST_DEEDS];
        final int[] mosts = new int[(MOST_DEEDS + 1) * BUYER_SETS];

        void open(Port port, int[] whens) {
            Arrays.fill(mosts, 0);
            for (int i = port.deedCount - 1; i >= 0; i--) {
                prices[i] = port.priceOf(i, whens[i]);
                for (int set = 0; set < BUYER_SETS; set++) {
                    fillMost(port, i, set);
                }
            }
        }

        void fillMost(Port port, int deed, int set) {
            int most = mosts[(deed + 1) * BUYER_SETS + set];
            for (int party = 0; party < port.partyCount; party++) {
                if (mayBuy(port, party, deed, set)) {
                    most = Math.max(most, sold(party, deed, set));
                }
            }
            mosts[deed * BUYER_SETS + set] = most;
        }

        boolean mayBuy(Port port, int party, int deed, int set) {
            Deed sale = port.deeds[deed];
            return sale.state == BLANK && !sale.isOf(party) && (set >> party & 1) == 0
                    && port.parties[party].coins >= prices[deed];
        }

        int sold(int party, int deed, int set) {
            return prices[deed] + mosts[(deed + 1) * BUYER_SETS + (set | 1 << party)];
        }

        int most() {
            return mosts[0];
        }

        int buyerOf(Port port, int wanted) {
            int set = 0;
            int buyer = NONE;
            for (int deed = 0; deed <= wanted; deed++) {
                buyer = firstBuyer(port, deed, set);
                if (buyer != NONE) {
                    set |= 1 << buyer;
                }
            }
            return buyer;
        }

        int firstBuyer(Port port, int deed, int set) {
            int most = mosts[deed * BUYER_SETS + set];
            if (mosts[(deed + 1) * BUYER_SETS + set] == most) {
                return NONE;
            }
            for (int party = 0; party < port.partyCount; party++) {
                if (mayBuy(port, party, deed, set) && sold(party, deed, set) == most) {
                    return party;
                }
            }
            return NONE;
        }
    }
}
