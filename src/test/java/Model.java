import java.util.ArrayList;
import java.util.List;
import java.util.function.ToIntFunction;

/** The document once more, written plainly and without care for cost, to hold the program's answers against. */
final class Model {
    static final class D {
        int ink, from, to, sum, term, on = -1, but = -1, written, ripe, up = -1, state;
        boolean paid;

        D copy() {
            D d = new D();
            d.ink = ink;
            d.from = from;
            d.to = to;
            d.sum = sum;
            d.term = term;
            d.on = on;
            d.but = but;
            d.written = written;
            d.ripe = ripe;
            d.up = up;
            d.state = state;
            d.paid = paid;
            return d;
        }
    }

    /** A line of the law: kind 0 ripe, 1 slow, 2 cost; what it adds, once it holds of a deed. */
    record Line(int kind, int amount, ToIntFunction<int[]> holds) {
    }

    int[] coins = new int[0];
    boolean[] broke = new boolean[0];
    List<int[]> inks = new ArrayList<>();
    List<D> deeds = new ArrayList<>();
    int[] damp = {2, 2, 2, 2};
    int salt = 1;
    int spray = 0;
    int time = 0;
    int seed = 1;
    List<Line> law = new ArrayList<>();
    List<int[]> log = new ArrayList<>();

    Model copy() {
        Model m = new Model();
        m.coins = coins.clone();
        m.broke = broke.clone();
        m.inks = new ArrayList<>(inks);
        for (D d : deeds) {
            m.deeds.add(d.copy());
        }
        m.damp = damp.clone();
        m.salt = salt;
        m.spray = spray;
        m.time = time;
        m.seed = seed;
        m.law = law;
        m.log = new ArrayList<>(log);
        return m;
    }

    /** deed, ink, sum, ripe, season, damp, salt, leaning, barred */
    int[] facts(int i) {
        D d = deeds.get(i);
        return new int[] {i, d.ink, d.sum, d.ripe, time % 4, damp[time % 4], salt, d.on >= 0 ? 1 : 0, d.but >= 0 ? 1 : 0};
    }

    int lines(int i, int kind) {
        return law.stream().filter(l -> l.kind() == kind && l.holds().applyAsInt(facts(i)) == 1).mapToInt(Line::amount).sum();
    }

    int ripens(int i) {
        int by = 1 + inks.get(deeds.get(i).ink)[2] * damp[time % 4] / 10 + lines(i, 0) - lines(i, 1);
        return by < 0 ? 0 : by;
    }

    int costs(int i) {
        return salt + lines(i, 2);
    }

    boolean reads(int i, int extra) {
        return deeds.get(i).state == 1 || deeds.get(i).state == 0 && (extra & 1 << i) != 0;
    }

    boolean valid(int i, int extra) {
        D d = deeds.get(i);
        return reads(i, extra) && (d.on < 0 || reads(d.on, extra)) && (d.but < 0 || !reads(d.but, extra));
    }

    int draw() {
        seed = 1103515245 * seed + 12345;
        return (seed >> 16 & 0x7fff) % 100 < spray ? 1 : 0;
    }

    void season(int wet) {
        for (int i = 0; i < deeds.size(); i++) {
            D d = deeds.get(i);
            if (d.state == 0) {
                d.ripe += ripens(i) + wet;
                if (d.ripe >= inks.get(d.ink)[0]) {
                    up(i);
                }
            }
        }
        for (int i = 0; i < deeds.size(); i++) {
            D d = deeds.get(i);
            int keeps = inks.get(d.ink)[1];
            if (d.state == 1 && keeps > 0 && d.up + keeps <= time) {
                d.state = 2;
                log.add(new int[] {time, i, 1, 0});
            }
        }
        for (int i = 0; i < deeds.size(); i++) {
            D d = deeds.get(i);
            if (valid(i, 0) && !d.paid && d.up + d.term <= time) {
                d.paid = true;
                int n = Math.min(d.sum, coins[d.from]);
                coins[d.from] -= n;
                coins[d.to] += n;
                broke[d.from] |= n < d.sum;
                log.add(new int[] {time, i, n < d.sum ? 3 : 2, n});
            }
        }
        time++;
    }

    void up(int i) {
        deeds.get(i).state = 1;
        deeds.get(i).up = time;
        log.add(new int[] {time, i, 0, 0});
    }

    void warm(int i, int party) {
        coins[party] -= costs(i);
        up(i);
        for (int j = i + 1; j < deeds.size(); j++) {
            if (deeds.get(j).state == 0) {
                deeds.get(j).ripe /= 2;
                break;
            }
        }
    }

    Model ahead(int n, int wet) {
        Model m = copy();
        for (int i = 0; i < n; i++) {
            m.season(wet);
        }
        return m;
    }

    Model trial(int n, int from) {
        Model m = copy();
        m.seed = from;
        for (int i = 0; i < n; i++) {
            m.season(m.draw());
        }
        return m;
    }

    int when(int i, int wet) {
        for (int n = 0; n <= 80; n++) {
            if (ahead(n, wet).deeds.get(i).up >= 0) {
                return n;
            }
        }
        return -1;
    }

    int bits(java.util.function.IntPredicate in, int n) {
        int set = 0;
        for (int i = 0; i < n; i++) {
            set |= in.test(i) ? 1 << i : 0;
        }
        return set;
    }

    int net(int party, int extra) {
        int all = 0;
        for (int i = 0; i < deeds.size(); i++) {
            D d = deeds.get(i);
            if (valid(i, extra) && !d.paid) {
                all += (d.to == party ? d.sum : 0) - (d.from == party ? d.sum : 0);
            }
        }
        return all;
    }

    /** Answers seasons from which on a sheet can be read, season by season. */
    boolean sheetReads(int ink, int written, int at) {
        int ripe = 0;
        int from = -1;
        for (int t = written; from < 0; t++) {
            ripe += 1 + inks.get(ink)[2] * damp[t % 4] / 10;
            from = ripe >= inks.get(ink)[0] ? t + 1 : -1;
        }
        int keeps = inks.get(ink)[1];
        return at >= from && (keeps == 0 || at < from + keeps);
    }

    List<int[]> fitting(int[] rows) {
        List<int[]> out = new ArrayList<>();
        for (int ink = 0; ink < inks.size(); ink++) {
            for (int w = 0; w <= 20; w++) {
                boolean fits = true;
                for (int i = 0; i < rows.length; i += 2) {
                    fits &= sheetReads(ink, w, rows[i]) == (rows[i + 1] == 1);
                }
                if (fits) {
                    out.add(new int[] {ink, w});
                }
            }
        }
        return out;
    }

    int owes(int a, int b) {
        int all = 0;
        for (int i = 0; i < deeds.size(); i++) {
            D d = deeds.get(i);
            if (valid(i, 0) && !d.paid) {
                all += d.from == a && d.to == b ? d.sum : d.from == b && d.to == a ? -d.sum : 0;
            }
        }
        return all < 0 ? 0 : all;
    }

    int cleared(int without) {
        int all = 0;
        for (int a = 0; a < coins.length; a++) {
            int owed = 0;
            for (int b = 0; b < coins.length; b++) {
                if (a != b && a != without && b != without) {
                    owed += owes(a, b) - owes(b, a);
                }
            }
            all += owed < 0 ? 0 : owed;
        }
        return all;
    }

    boolean ring(int start, int at, int seen) {
        for (int b = 0; b < coins.length; b++) {
            if (b != at && owes(at, b) > 0 && (b == start || (seen & 1 << b) == 0 && ring(start, b, seen | 1 << b))) {
                return true;
            }
        }
        return false;
    }

    int price(int i) {
        int when = when(i, 0);
        return deeds.get(i).state != 0 || when < 0 || when > deeds.get(i).sum ? 0 : deeds.get(i).sum - when;
    }

    private int mostSold;
    private int[] bestWay;

    /** All ways one by one, in their order; the first of the most stays. */
    int[] buyers() {
        mostSold = -1;
        int[] prices = new int[deeds.size()];
        for (int i = 0; i < prices.length; i++) {
            prices[i] = price(i);
        }
        sell(0, 0, 0, prices, new int[deeds.size()]);
        return bestWay;
    }

    int mostSold() {
        return mostSold;
    }

    private void sell(int i, int used, int all, int[] prices, int[] way) {
        if (i == deeds.size()) {
            if (all > mostSold) {
                mostSold = all;
                bestWay = way.clone();
            }
            return;
        }
        way[i] = -1;
        sell(i + 1, used, all, prices, way);
        D d = deeds.get(i);
        for (int p = 0; d.state == 0 && p < coins.length; p++) {
            if ((used & 1 << p) == 0 && p != d.from && p != d.to && coins[p] >= prices[i]) {
                way[i] = p;
                sell(i + 1, used | 1 << p, all + prices[i], prices, way);
            }
        }
    }

    int[] gains(int a, int b, int i, int choice) {
        boolean aWarms = choice / 2 == 0;
        boolean bWarms = choice % 2 == 0;
        int[] out = new int[2];
        D d = deeds.get(i);
        int[] who = {a, b};
        boolean[] warms = {aWarms, bWarms};
        for (int k = 0; k < 2; k++) {
            if (aWarms || bWarms) {
                out[k] += d.to == who[k] ? d.sum : 0;
                out[k] -= d.from == who[k] ? d.sum : 0;
            }
            if (aWarms && bWarms) {
                out[k] -= costs(i) / 2;
            } else if (warms[k]) {
                out[k] -= costs(i);
            }
        }
        return out;
    }

    int rests(int a, int b, int i) {
        return deeds.get(i).state != 0 ? -1 : bits(c -> gains(a, b, i, c)[0] >= gains(a, b, i, c ^ 2)[0]
                && gains(a, b, i, c)[1] >= gains(a, b, i, c ^ 1)[1], 4);
    }

    int apart() {
        int best = -1;
        for (int set = 15; set >= 0; set--) {
            boolean all = true;
            for (int[] a : inks) {
                for (int[] b : inks) {
                    boolean told = a[2] == b[2];
                    for (int s = 0; s < 4; s++) {
                        told |= (set & 1 << s) != 0 && a[2] * damp[s] / 10 != b[2] * damp[s] / 10;
                    }
                    all &= told;
                }
            }
            if (all && (best < 0 || Integer.bitCount(set) <= Integer.bitCount(best))) {
                best = set;
            }
        }
        return best;
    }
}
