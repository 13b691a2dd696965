import java.util.ArrayList;
import java.util.List;
import java.util.Random;
import java.util.function.ToIntFunction;

/** Walks by chance through ports and acts: each answer is held against the plain model's. */
public final class WalkTest {
    private static final String[] FACTS = {"deed", "ink", "sum", "ripe", "season", "damp", "salt"};

    private final Random chance;
    private final LateInks x = new LateInks();
    private Model m = new Model();
    private final List<Model> past = new ArrayList<>();
    private Model image = null;

    private WalkTest(int seed) {
        chance = new Random(seed);
    }

    public static void main(String[] args) {
        int walks = args.length > 0 ? Integer.parseInt(args[0]) : 150;
        for (int seed = 0; seed < walks; seed++) {
            new WalkTest(seed).walk();
        }
        Kit.end();
    }

    private int any(int least, int most) {
        return least + chance.nextInt(most - least + 1);
    }

    private boolean once(int in) {
        return chance.nextInt(in) == 0;
    }

    private void walk() {
        tellPort();
        if (!once(4)) {
            tellLaw();
        }
        checkAll();
        int acts = any(2, 14);
        for (int i = 0; i < acts; i++) {
            act();
            checkFew();
        }
        checkAll();
    }

    // ---- texts by chance ----

    private String gap() {
        return once(5) ? "  " : " ";
    }

    private void tellPort() {
        int parties = any(2, 6);
        m.coins = new int[parties];
        m.broke = new boolean[parties];
        StringBuilder out = new StringBuilder();
        for (int i = 0; i < parties; i++) {
            m.coins[i] = any(0, once(3) ? 100 : 30);
            out.append(i == 0 ? "" : ";").append("party").append(gap()).append(m.coins[i]);
        }
        int inks = any(1, 5);
        for (int i = 0; i < inks; i++) {
            int[] ink = {any(1, once(4) ? 99 : 12), once(2) ? 0 : any(1, 9), any(0, 9)};
            m.inks.add(ink);
            out.append(";ink age ").append(ink[0]);
            out.append(ink[1] == 0 && once(2) ? "" : " keeps " + ink[1]).append(ink[2] == 0 && once(2) ? "" : " soaks " + ink[2]);
        }
        m.time = any(0, 9);
        Kit.port(x, out.append(";time ").append(m.time).toString());
        String[] seasons = {"spring", "summer", "autumn", "winter"};
        out = new StringBuilder();
        for (int i = 0; i < 4; i++) {
            m.damp[i] = any(0, 9);
            out.append("damp ").append(seasons[i]).append(gap()).append(m.damp[i]).append(";");
        }
        m.salt = any(0, 9);
        m.spray = once(3) ? 0 : any(0, 100);
        out.append("salt ").append(m.salt).append(";spray ").append(m.spray);
        Kit.port(x, out.toString());
        int deeds = any(0, 8);
        for (int i = 0; i < deeds; i++) {
            Kit.port(x, deedLine(i));
        }
    }

    private String deedLine(int number) {
        Model.D d = new Model.D();
        d.ink = any(0, m.inks.size() - 1);
        d.from = any(0, m.coins.length - 1);
        d.to = (d.from + any(1, m.coins.length - 1)) % m.coins.length;
        d.sum = any(0, once(3) ? 99 : 20);
        d.term = once(2) ? 0 : any(0, 6);
        d.on = number > 0 && once(3) ? any(0, number - 1) : -1;
        d.but = number > 0 && once(3) ? any(0, number - 1) : -1;
        d.written = m.time;
        m.deeds.add(d);
        return "deed ink " + d.ink + " from " + d.from + gap() + "to " + d.to + " sum " + d.sum
                + (d.term > 0 ? " term " + d.term : "") + (d.on >= 0 ? " on " + d.on : "") + (d.but >= 0 ? " but " + d.but : "");
    }

    private final StringBuilder text = new StringBuilder();

    private void tellLaw() {
        List<Model.Line> lines = new ArrayList<>();
        text.setLength(0);
        int count = any(0, 12);
        String[] kinds = {"ripe", "slow", "cost"};
        for (int i = 0; i < count; i++) {
            int begin = text.length();
            int kind = any(0, 2);
            int amount = any(0, 3);
            text.append(i == 0 ? "" : ";").append(kinds[kind]).append(' ').append(amount);
            ToIntFunction<int[]> holds = f -> 1;
            if (!once(3)) {
                text.append(" if ");
                holds = condition(0);
            }
            if (text.length() > 400) {
                text.setLength(begin);
                break;
            }
            lines.add(new Model.Line(kind, amount, holds));
        }
        Kit.is("law " + text, Kit.law(x, text.toString()), lines.size());
        m.law = lines;
        past.clear();
    }

    private ToIntFunction<int[]> condition(int depth) {
        List<ToIntFunction<int[]>> alls = new ArrayList<>();
        int n = once(3) ? any(2, 3) : 1;
        for (int i = 0; i < n; i++) {
            text.append(i == 0 ? "" : " or ");
            alls.add(all(depth));
        }
        return f -> alls.stream().anyMatch(a -> a.applyAsInt(f) == 1) ? 1 : 0;
    }

    private ToIntFunction<int[]> all(int depth) {
        List<ToIntFunction<int[]>> atoms = new ArrayList<>();
        int n = once(3) ? any(2, 3) : 1;
        for (int i = 0; i < n; i++) {
            text.append(i == 0 ? "" : " and ");
            atoms.add(atom(depth));
        }
        return f -> atoms.stream().allMatch(a -> a.applyAsInt(f) == 1) ? 1 : 0;
    }

    private ToIntFunction<int[]> atom(int depth) {
        int kind = any(0, depth < 6 ? 5 : 3);
        if (kind == 0) {
            text.append("leaning");
            return f -> f[7];
        }
        if (kind == 1) {
            text.append("barred");
            return f -> f[8];
        }
        if (kind == 4) {
            text.append("not ");
            ToIntFunction<int[]> inner = atom(depth + 1);
            return f -> 1 - inner.applyAsInt(f);
        }
        if (kind == 5) {
            text.append("(");
            ToIntFunction<int[]> inner = condition(depth + 1);
            text.append(")");
            return inner;
        }
        ToIntFunction<int[]> left = sum();
        boolean less = once(2);
        text.append(less ? "<" : " > ");
        ToIntFunction<int[]> right = sum();
        return f -> (less ? left.applyAsInt(f) < right.applyAsInt(f) : left.applyAsInt(f) > right.applyAsInt(f)) ? 1 : 0;
    }

    private ToIntFunction<int[]> sum() {
        List<ToIntFunction<int[]>> parts = new ArrayList<>();
        int n = once(3) ? any(2, 3) : 1;
        for (int i = 0; i < n; i++) {
            text.append(i == 0 ? "" : "+");
            if (once(2)) {
                int number = any(0, 12);
                text.append(number);
                parts.add(f -> number);
            } else {
                int fact = any(0, 6);
                text.append(FACTS[fact]);
                parts.add(f -> f[fact]);
            }
        }
        return f -> parts.stream().mapToInt(p -> p.applyAsInt(f)).sum();
    }

    // ---- acts by chance ----

    private void remember() {
        past.add(m.copy());
        if (past.size() > 12) {
            past.remove(0);
        }
    }

    private void act() {
        int kind = any(0, 11);
        int deed = m.deeds.isEmpty() ? -1 : any(0, m.deeds.size() - 1);
        int party = any(0, m.coins.length - 1);
        int other = (party + any(1, m.coins.length - 1)) % m.coins.length;
        if (kind <= 2) {
            passSeasons(any(1, once(5) ? 30 : 4));
        } else if (kind == 3) {
            writeDeed(party, other);
        } else if (kind == 4 && deed >= 0) {
            warmDeed(deed, party);
        } else if (kind == 5 && deed >= 0) {
            burnDeed(deed);
        } else if (kind == 6) {
            lendCoins(party, other, any(1, 40));
        } else if (kind == 7) {
            remember();
            int salt = any(0, 9);
            Kit.is("salt", x.salt(salt), m.salt);
            m.salt = salt;
        } else if (kind == 8 && deed >= 0) {
            remember();
            int by = any(-1, deed - 1);
            Kit.is("bar", x.bar(deed, by), m.deeds.get(deed).but);
            m.deeds.get(deed).but = by;
        } else if (kind == 9) {
            Kit.is("undo", x.undo(), !past.isEmpty());
            m = past.isEmpty() ? m : past.remove(past.size() - 1);
        } else if (kind == 10) {
            keep();
        } else {
            int seed = chance.nextInt();
            Kit.is("seed", x.seed(seed), m.seed);
            m.seed = seed;
        }
    }

    private void passSeasons(int n) {
        remember();
        long before = m.deeds.stream().filter(d -> d.paid).count();
        for (int i = 0; i < n; i++) {
            m.season(m.draw());
        }
        Kit.is("seasons", x.seasons(n), m.deeds.stream().filter(d -> d.paid).count() - before);
    }

    private void writeDeed(int party, int other) {
        if (m.deeds.size() == 8) {
            Kit.fails("write", Kit.STATE, () -> x.write(0, party, other, 1, 1));
            return;
        }
        remember();
        Model.D d = new Model.D();
        d.ink = any(0, m.inks.size() - 1);
        d.from = party;
        d.to = other;
        d.sum = any(0, 30);
        d.term = any(0, 5);
        d.written = m.time;
        m.deeds.add(d);
        Kit.is("write", x.write(d.ink, party, other, d.sum, d.term), m.deeds.size() - 1);
    }

    private void warmDeed(int deed, int party) {
        if (m.deeds.get(deed).state != 0 || m.coins[party] < m.costs(deed)) {
            Kit.fails("warm", Kit.STATE, () -> x.warm(deed, party));
            return;
        }
        remember();
        m.warm(deed, party);
        Kit.is("warm", x.warm(deed, party), m.coins[party]);
    }

    private void burnDeed(int deed) {
        if (m.deeds.get(deed).state == 3) {
            Kit.fails("burn", Kit.STATE, () -> x.burn(deed));
            return;
        }
        remember();
        Kit.is("burn", x.burn(deed), m.deeds.get(deed).state);
        m.deeds.get(deed).state = 3;
        m.log.add(new int[] {m.time, deed, 4, 0});
    }

    private void lendCoins(int party, int other, int n) {
        if (m.coins[party] < n) {
            Kit.fails("lend", Kit.STATE, () -> x.lend(party, other, n));
            return;
        }
        remember();
        m.coins[party] -= n;
        m.coins[other] += n;
        Kit.is("lend", x.lend(party, other, n), m.coins[party]);
    }

    private void keep() {
        if (once(2)) {
            x.image();
            image = m.copy();
            return;
        }
        Kit.is("back", x.back(), image != null);
        if (image != null) {
            m = image.copy();
            past.clear();
        }
    }

    // ---- answers ----

    private void checkAll() {
        checkFew();
        checkTimes();
        checkReadings();
        checkSheets();
        checkDebts();
        checkDeals();
        checkTrials();
    }

    private void checkFew() {
        int all = 0;
        for (int i = 0; i < m.coins.length; i++) {
            Kit.is("coins", x.party(i, 0), m.coins[i]);
            Kit.is("broke", x.party(i, 1), m.broke[i] ? 1 : 0);
            all += m.coins[i];
        }
        Kit.is("all coins", x.count(8), all);
        Kit.is("broken", x.broken(), m.bits(i -> m.broke[i], m.coins.length));
        Kit.is("deeds", x.count(2), m.deeds.size());
        int n = m.deeds.size();
        for (int i = 0; i < n; i++) {
            Model.D d = m.deeds.get(i);
            int[] due = {d.ink, d.from, d.to, d.sum, d.term, d.on, d.but, d.written, d.ripe, d.up, d.state, d.paid ? 1 : 0,
                m.ripens(i), m.costs(i), m.valid(i, 0) ? 1 : 0};
            for (int what = 0; what < due.length; what++) {
                Kit.is("deed " + what, x.deed(i, what), due[what]);
            }
        }
        Kit.is("reads", x.reads(), m.bits(i -> m.deeds.get(i).state == 1, n));
        Kit.is("blank", x.blank(), m.bits(i -> m.deeds.get(i).state == 0, n));
        Kit.is("valid", x.valid(), m.bits(i -> m.valid(i, 0), n));
        Kit.is("paid", x.count(9), m.bits(i -> m.deeds.get(i).paid, n));
        Kit.is("time", x.count(5), m.time);
        Kit.is("salt", x.count(6), m.salt);
        Kit.is("acts", x.count(11), past.size());
        Kit.is("seed", x.seed(m.seed), m.seed);
        Kit.is("rows", x.count(10), m.log.size());
        for (int i = 0; i < m.log.size(); i++) {
            for (int what = 0; what < 4; what++) {
                Kit.is("log", x.log(i, what), m.log.get(m.log.size() - 1 - i)[what]);
            }
        }
    }

    private void checkTimes() {
        int latest = -1;
        int most = -1;
        for (int i = 0; i < m.deeds.size(); i++) {
            int when = m.when(i, 0);
            Kit.is("when", x.when(i), when);
            latest = when > most ? i : latest;
            most = Math.max(when, most);
            int deed = i;
            Kit.is("due", x.due(i), first(a -> a.deeds.get(deed).paid));
            int wet = m.when(i, 1);
            Kit.is("early", x.early(i), m.deeds.get(i).state != 0 || when < 0 || wet < 0 ? 0 : when - wet);
            int n = any(0, 80);
            Model.D then = m.ahead(n, 0).deeds.get(i);
            Kit.is("ahead", x.ahead(i, n, 0), then.ripe);
            Kit.is("ahead", x.ahead(i, n, 1), then.state);
            Kit.is("ahead", x.ahead(i, n, 2), then.paid ? 1 : 0);
            Kit.is("led", x.led(i, false), m.log.stream().filter(r -> r[1] == deed).count());
            Kit.is("led", x.led(i, true), m.log.stream().filter(r -> r[1] == deed).mapToInt(r -> r[0]).max().orElse(-1));
        }
        Kit.is("late", x.late(), latest);
        int ruin = first(a -> a.bits(i -> a.broke[i], a.coins.length) != 0);
        Kit.is("ruin", x.ruin(false), ruin);
        Kit.is("ruin", x.ruin(true), ruin < 0 ? -1 : Integer.numberOfTrailingZeros(brokeOf(m.ahead(ruin, 0))));
        for (int i = 0; i < m.coins.length; i++) {
            int n = any(0, 80);
            Kit.is("wealth", x.wealth(i, n), m.ahead(n, 0).coins[i]);
        }
    }

    private static int brokeOf(Model a) {
        return a.bits(i -> a.broke[i], a.coins.length);
    }

    private int first(java.util.function.Predicate<Model> is) {
        for (int n = 0; n <= 80; n++) {
            if (is.test(m.ahead(n, 0))) {
                return n;
            }
        }
        return -1;
    }

    private void checkReadings() {
        int blanks = x.blank();
        for (int p = 0; p < m.coins.length; p++) {
            int sure = 9999;
            int hope = -9999;
            int by = 0;
            int all = 0;
            int count = 0;
            int c = any(0, once(3) ? 999 : 25);
            int worth = -9999;
            int worthSet = 0;
            for (int set = 0; set < 256; set++) {
                int net = m.net(p, set);
                Kit.is("net", x.net(p, set | chance.nextInt() << 8), net);
                if ((set & blanks) != set) {
                    continue;
                }
                sure = Math.min(sure, net);
                by = net > hope ? set : by;
                hope = Math.max(hope, net);
                all += net;
                count++;
                int costs = 0;
                for (int i = 0; i < m.deeds.size(); i++) {
                    costs += (set & 1 << i) != 0 ? m.costs(i) : 0;
                }
                if (costs <= c && net - costs > worth) {
                    worth = net - costs;
                    worthSet = set;
                }
            }
            Kit.is("sure", x.party(p, 3), sure);
            Kit.is("hope", x.party(p, 4), hope);
            Kit.is("by", x.party(p, 5), by);
            Kit.is("fortune", x.party(p, 6), all / count);
            Kit.is("worth", x.worth(p, c, false), worthSet);
            Kit.is("worth", x.worth(p, c, true), worth);
        }
    }

    private void checkSheets() {
        int[] rows = new int[any(0, once(2) ? 20 : 3) * 2];
        int ink = any(0, m.inks.size() - 1);
        int written = any(0, 20);
        StringBuilder tape = new StringBuilder();
        for (int i = 0; i < rows.length; i += 2) {
            rows[i] = any(0, once(3) ? 60 : 25);
            rows[i + 1] = once(40) ? any(0, 1) : m.sheetReads(ink, written, rows[i]) ? 1 : 0;
            tape.append((char) rows[i]).append((char) rows[i + 1]);
        }
        List<int[]> fitting = m.fitting(rows);
        Kit.tape(x, tape.toString());
        Kit.is("jars", x.jars(false), fitting.size());
        Kit.tape(x, tape.toString());
        Kit.is("jars", x.jars(true), m.bits(i -> fitting.stream().anyMatch(f -> f[0] == i), m.inks.size()));
        int best = -1;
        long least = 9999;
        for (int t = 0; t <= 60 && fitting.size() > 1; t++) {
            int at = t;
            long yes = fitting.stream().filter(f -> m.sheetReads(f[0], f[1], at)).count();
            long greater = Math.max(yes, fitting.size() - yes);
            best = greater < least ? t : best;
            least = Math.min(least, greater);
        }
        Kit.tape(x, tape.toString());
        Kit.is("ask", x.ask(), best);
        Kit.is("apart", x.apart(), m.apart());
        int soonest = -1;
        int n = 81;
        for (int i = 0; i < m.inks.size(); i++) {
            for (int k = 1; k < n; k++) {
                if (m.sheetReads(i, m.time, m.time + k)) {
                    n = k;
                    soonest = i;
                }
            }
        }
        Kit.is("soonest", x.soonest(false), soonest);
        Kit.is("soonest", x.soonest(true), soonest < 0 ? -1 : n);
        for (int i = 0; i < m.deeds.size(); i++) {
            Model.D d = m.deeds.get(i);
            int deed = i;
            if (d.up < 0) {
                Kit.fails("forged", Kit.STATE, () -> x.forged(deed));
            } else {
                boolean justUp = m.sheetReads(d.ink, d.written, d.up + 1) && !m.sheetReads(d.ink, d.written, d.up);
                Kit.is("forged", x.forged(i), !justUp);
            }
        }
    }

    private void checkDebts() {
        int pivot = -1;
        for (int a = 0; a < m.coins.length; a++) {
            for (int b = 0; b < m.coins.length; b++) {
                if (a != b) {
                    Kit.is("owes", x.owes(a, b), m.owes(a, b));
                }
            }
            Kit.is("ring", x.ring(a), m.ring(a, a, 1 << a));
            pivot = pivot < 0 || m.cleared(a) < m.cleared(pivot) ? a : pivot;
        }
        Kit.is("cleared", x.cleared(), m.cleared(-1));
        Kit.is("pivot", x.pivot(), pivot);
    }

    private void checkDeals() {
        int[] way = m.buyers();
        Kit.is("buyers", x.buyers(-1), m.mostSold());
        for (int i = 0; i < m.deeds.size(); i++) {
            Kit.is("price", x.deed(i, 15), m.price(i));
            Kit.is("buyer", x.buyers(i), way[i]);
            for (int a = 0; a < m.coins.length; a++) {
                for (int b = 0; b < m.coins.length; b++) {
                    if (a != b) {
                        Kit.is("rests", x.rests(a, b, i), m.rests(a, b, i));
                    }
                }
            }
        }
        int n = any(0, 6);
        for (int k = 0; k <= 6; k++) {
            long good = 0;
            for (int ways = 0; ways < 1 << n; ways++) {
                long odd = 1;
                for (int i = 0; i < n; i++) {
                    odd *= (ways & 1 << i) != 0 ? m.spray : 100 - m.spray;
                }
                good += Integer.bitCount(ways) >= k ? odd : 0;
            }
            Kit.is("odds", x.odds(n, k), good * 10000 / Math.round(Math.pow(100, n)));
        }
    }

    private void checkTrials() {
        int n = any(0, once(3) ? 80 : 12);
        Model then = m.trial(n, m.seed);
        Kit.is("trial", x.trial(n, true), brokeOf(then));
        Kit.is("trial", x.trial(n, false), then.bits(i -> then.deeds.get(i).state == 1, then.deeds.size()));
        long least = 9;
        long most = 0;
        for (int seed = 1; seed <= 6; seed++) {
            long paid = m.trial(n, seed).deeds.stream().filter(d -> d.paid).count();
            least = Math.min(least, paid);
            most = Math.max(most, paid);
        }
        Kit.is("span", x.span(n, false), least);
        Kit.is("span", x.span(n, true), most);
    }
}
