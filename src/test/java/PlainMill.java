import java.util.ArrayList;
import java.util.List;

/** The document once more, in its plainest form: every price and every coin is tried. */
final class PlainMill {
    static final long INT = 1000000000L;
    static final long LONG = 4000000000000000000L;
    static final long THROWS_ARGUMENT = Long.MIN_VALUE;
    static final long THROWS_STATE = Long.MIN_VALUE + 1;

    static final class State {
        List<List<int[]>> signs = List.of(new ArrayList<>(), new ArrayList<>());
        int part = 50;
        int outside = 0;
        int[] loss = {1, 1};
        List<int[]> pieces = new ArrayList<>();

        State copy() {
            State c = new State();
            for (int o = 0; o < 2; o++) {
                for (int[] sign : signs.get(o)) {
                    c.signs.get(o).add(sign.clone());
                }
            }
            c.part = part;
            c.outside = outside;
            c.loss = loss.clone();
            for (int[] piece : pieces) {
                c.pieces.add(piece.clone());
            }
            return c;
        }
    }

    /** Who has it, at what price or for what strangers give. */
    record Deal(int who, int price) {
    }

    State now = new State();
    State image = null;
    int[] kindOn = {-1, -1, -1, -1, -1, -1, -1, -1};
    int[] figureOn = new int[8];
    int[] sortOn = new int[8];
    long[][] rowOn = new long[8][];

    int n(int o) {
        return now.signs.get(o).size();
    }

    int at(int o, int s, int what) {
        return now.signs.get(o).get(s)[what];
    }

    int part(int o) {
        return o == 0 ? now.part : 100 - now.part;
    }

    int chances(int o) {
        int sum = 0;
        for (int[] sign : now.signs.get(o)) {
            sum += sign[0];
        }
        return sum;
    }

    boolean ready(int o) {
        return chances(o) == 100;
    }

    boolean ready() {
        return ready(0) && ready(1);
    }

    static boolean in(long x, long low, long high) {
        return x >= low && x <= high;
    }

    boolean hasSign(int o, int s) {
        return in(o, 0, 1) && in(s, 0, n(o) - 1);
    }

    boolean empty(int d) {
        return kindOn[d] < 0 && rowOn[d] == null;
    }

    boolean ofBids(int d) {
        return kindOn[d] == 2 || kindOn[d] == 3 || kindOn[d] == 7;
    }

    // ---- owners

    long sign(int o, int chance, int worth, int coin) {
        if (!in(o, 0, 1) || !in(chance, 1, 100) || !in(worth, 0, 999) || !in(coin, 0, 999)) return -1;
        if (n(o) == 5) return -2;
        if (chances(o) + chance > 100) return -3;
        now.signs.get(o).add(new int[] {chance, worth, coin});
        return n(o) - 1;
    }

    long of(int o, int s, int what) {
        return hasSign(o, s) && in(what, 0, 2) ? at(o, s, what) : -1;
    }

    long change(int o, int s, int what, int v) {
        if (!hasSign(o, s) || !in(what, 1, 2) || !in(v, 0, 999)) return -1;
        int old = at(o, s, what);
        now.signs.get(o).get(s)[what] = v;
        return old;
    }

    long set(int what, int v) {
        int old;
        if (what == 0 && in(v, 1, 99)) {
            old = now.part;
            now.part = v;
        } else if (what == 1 && in(v, 0, 999)) {
            old = now.outside;
            now.outside = v;
        } else if (in(what, 2, 3) && in(v, 0, 99)) {
            old = now.loss[what - 2];
            now.loss[what - 2] = v;
        } else {
            return -1;
        }
        return old;
    }

    // ---- naming

    boolean coinFor(int o, int s, int p) {
        return p * part(1 - o) <= 100 * at(o, s, 2);
    }

    Deal byName(int namer, int i, int j, int p) {
        int[] s = {i, j};
        int other = 1 - namer;
        if (at(other, s[other], 1) >= p && coinFor(other, s[other], p)) return new Deal(other, p);
        if (coinFor(namer, s[namer], p)) return new Deal(namer, p);
        return new Deal(2, now.outside);
    }

    int gain(int o, int i, int j, Deal deal) {
        if (deal.who() == 2) return deal.price() * part(o);
        if (deal.who() == o) return 100 * at(o, o == 0 ? i : j, 1) - deal.price() * part(1 - o);
        return deal.price() * part(o);
    }

    boolean naming(int namer, int i, int j, int p) {
        return in(namer, 0, 1) && hasSign(0, i) && hasSign(1, j) && in(p, 0, 999);
    }

    long named(int namer, int i, int j, int p) {
        return naming(namer, i, j, p) ? byName(namer, i, j, p).who() : -1;
    }

    long gets(int o, int namer, int i, int j, int p) {
        return in(o, 0, 1) && naming(namer, i, j, p) ? gain(o, i, j, byName(namer, i, j, p)) : -1 - INT;
    }

    long mean(int o, int s, int p) {
        long sum = 0;
        for (int t = 0; t < n(1 - o); t++) {
            int i = o == 0 ? s : t;
            int j = o == 0 ? t : s;
            sum += (long) at(1 - o, t, 0) * gain(o, i, j, byName(o, i, j, p));
        }
        return sum;
    }

    int best(int o, int s) {
        int best = 0;
        long most = mean(o, s, 0);
        for (int p = 1; p <= 999; p++) {
            long m = mean(o, s, p);
            if (m > most) {
                most = m;
                best = p;
            }
        }
        return best;
    }

    long meanNamed(int o, int s, int p) {
        if (!hasSign(o, s) || !in(p, 0, 999)) return -1 - LONG;
        return ready(1 - o) ? mean(o, s, p) : -3 - LONG;
    }

    long bestPrice(int o, int s) {
        if (!hasSign(o, s)) return -1;
        return ready(1 - o) ? best(o, s) : -3;
    }

    long tells(int o, int p) {
        if (!in(o, 0, 1) || !in(p, 0, 999)) return -1;
        if (!ready()) return -3;
        int sum = 0;
        for (int s = 0; s < n(o); s++) {
            sum += best(o, s) == p ? at(o, s, 0) : 0;
        }
        return sum;
    }

    long meanChosen(int o, int s) {
        if (!hasSign(o, s)) return -1 - LONG;
        if (!ready()) return -3 - LONG;
        long sum = 0;
        for (int t = 0; t < n(1 - o); t++) {
            int i = o == 0 ? s : t;
            int j = o == 0 ? t : s;
            sum += (long) at(1 - o, t, 0) * gain(o, i, j, byName(1 - o, i, j, best(1 - o, t)));
        }
        return sum;
    }

    long meanBy(int namer, int o) {
        long sum = 0;
        for (int i = 0; i < n(0); i++) {
            for (int j = 0; j < n(1); j++) {
                int p = best(namer, namer == 0 ? i : j);
                sum += (long) at(0, i, 0) * at(1, j, 0) * gain(o, i, j, byName(namer, i, j, p));
            }
        }
        return sum;
    }

    long waits(int last, int what) {
        if (!in(last, 0, 60) || !in(what, 0, 1)) return -1;
        if (!ready()) return -3;
        int[] who = new int[last + 1];
        int[] when = new int[last + 1];
        long[][] by = {{meanBy(0, 0), meanBy(0, 1)}, {meanBy(1, 0), meanBy(1, 1)}};
        when[last] = last;
        for (int day = last - 1; day >= 0; day--) {
            int o = day % 2;
            long names = by[o][o] - 10000L * now.loss[o] * day;
            long comes = by[who[day + 1]][o] - 10000L * now.loss[o] * when[day + 1];
            who[day] = names >= comes ? o : who[day + 1];
            when[day] = names >= comes ? day : when[day + 1];
        }
        return what == 0 ? who[0] : when[0];
    }

    long purse(int o, int s) {
        if (!hasSign(o, s)) return -1;
        if (!ready(1 - o)) return -3;
        int old = best(o, s);
        State was = now;
        try {
            for (int c = 0; c <= 999; c++) {
                now = was.copy();
                for (int[] sign : now.signs.get(1 - o)) {
                    sign[2] = Math.max(sign[2], c);
                }
                if (best(o, s) != old) return c;
            }
            return -4;
        } finally {
            now = was;
        }
    }

    // ---- bids

    Deal byPaper(int kind, int figure, int i, int j, int x, int y) {
        Deal out = new Deal(2, now.outside);
        switch (kind) {
            case 0:
                return out;
            case 1:
                return byName(0, i, j, x);
            case 4:
                return figure <= now.outside ? out : new Deal(2, 0);
            case 5:
                return byName(0, i, j, figure);
            case 6: {
                boolean zero = at(0, i, 1) >= figure && coinFor(0, i, figure);
                boolean one = at(1, j, 1) >= figure && coinFor(1, j, figure);
                if (zero && one) return new Deal(part(1) > part(0) ? 1 : 0, figure);
                return zero ? new Deal(0, figure) : one ? new Deal(1, figure) : out;
            }
            default: {
                int buyer = y > x ? 1 : 0;
                int own = Math.max(x, y);
                int less = Math.min(x, y);
                int price = kind == 2 ? own : kind == 3 ? (own > less ? less + 1 : own) : (x + y) / 2;
                return coinFor(buyer, buyer == 0 ? i : j, price) ? new Deal(buyer, price) : out;
            }
        }
    }

    long refusalOfPaper(int d) {
        return empty(d) ? -11 : kindOn[d] < 0 ? -12 : 0;
    }

    long refusalOfDeal(int d, int i, int j, int x, int y) {
        if (!in(d, 0, 7) || !hasSign(0, i) || !hasSign(1, j) || !in(x, 0, 999) || !in(y, 0, 999)) return -1;
        return refusalOfPaper(d);
    }

    long has(int d, int i, int j, int x, int y) {
        long refusal = refusalOfDeal(d, i, j, x, y);
        return refusal != 0 ? refusal : byPaper(kindOn[d], figureOn[d], i, j, x, y).who();
    }

    long pays(int d, int o, int i, int j, int x, int y) {
        long refusal = in(o, 0, 1) ? refusalOfDeal(d, i, j, x, y) : -1;
        return refusal != 0 ? refusal - INT : gain(o, i, j, byPaper(kindOn[d], figureOn[d], i, j, x, y));
    }

    long meanOfBid(int d, long[] bids, int o, int s, long bid) {
        long sum = 0;
        for (int t = 0; t < n(1 - o); t++) {
            int i = o == 0 ? s : t;
            int j = o == 0 ? t : s;
            int x = (int) (o == 0 ? bid : bids[t]);
            int y = (int) (o == 0 ? bids[n(0) + t] : bid);
            sum += (long) at(1 - o, t, 0) * gain(o, i, j, byPaper(kindOn[d], figureOn[d], i, j, x, y));
        }
        return sum;
    }

    long refusalOfBids(int d, int e) {
        if (!ready()) return -3;
        if (empty(d) || empty(e)) return -11;
        if (!ofBids(d) || rowOn[e] == null) return -12;
        if (rowOn[e].length != n(0) + n(1)) return -13;
        for (long bid : rowOn[e]) {
            if (!in(bid, 0, 999)) return -13;
        }
        return 0;
    }

    long meanBid(int d, int e, int o, int s) {
        if (!in(d, 0, 7) || !in(e, 0, 7) || !hasSign(o, s)) return -1 - LONG;
        long refusal = refusalOfBids(d, e);
        return refusal != 0 ? refusal - LONG : meanOfBid(d, rowOn[e], o, s, rowOn[e][o * n(0) + s]);
    }

    long rather(int d, long[] bids, int n) {
        for (int o = 0; o < 2; o++) {
            for (int s = 0; s < n(o); s++) {
                long has = meanOfBid(d, bids, o, s, bids[o * n(0) + s]);
                for (int k = 0; k * n <= 999; k++) {
                    if (meanOfBid(d, bids, o, s, k * n) > has) return 10 * o + s;
                }
            }
        }
        return -4;
    }

    long rest(int d, int e, int n) {
        if (!in(d, 0, 7) || !in(e, 0, 7) || !in(n, 50, 999)) return -1;
        long refusal = refusalOfBids(d, e);
        return refusal != 0 ? refusal : rather(d, rowOn[e], n);
    }

    void allRows(int n, long[] row, int k, List<long[]> rows) {
        if (k == row.length) {
            rows.add(row.clone());
            return;
        }
        for (int bid = 0; bid <= 999; bid += n) {
            row[k] = bid;
            allRows(n, row, k + 1, rows);
        }
    }

    long rests(int d, int n, int what) {
        if (!in(d, 0, 7) || !in(n, 50, 999) || what < -1) return -1;
        if (empty(d)) return -11;
        if (!ofBids(d)) return -12;
        if (!ready() || n(0) + n(1) > 4 || 999 / n + 1 > 5) return -3;
        List<long[]> rows = new ArrayList<>();
        allRows(n, new long[n(0) + n(1)], 0, rows);
        List<long[]> atRest = new ArrayList<>();
        for (long[] row : rows) {
            if (rather(d, row, n) == -4) atRest.add(row);
        }
        if (what == -1) return atRest.size();
        return atRest.isEmpty() || what >= n(0) + n(1) ? -4 : atRest.get(0)[what];
    }

    // ---- outcomes

    int told(int kind, int o, int s) {
        if (kind == 1) return o == 0 ? best(0, s) : 0;
        return kind == 2 || kind == 3 || kind == 7 ? at(o, s, 1) : 0;
    }

    long outcomeOf(int kind, int figure, int what) {
        long sum = 0;
        for (int i = 0; i < n(0); i++) {
            int x = told(kind, 0, i);
            for (int j = 0; j < n(1); j++) {
                Deal deal = byPaper(kind, figure, i, j, x, told(kind, 1, j));
                int a = at(0, i, 1);
                int b = at(1, j, 1);
                int got = deal.who() == 0 ? a : deal.who() == 1 ? b : deal.price();
                long lost = Math.max(a, b) - got;
                long figured = what < 2 ? gain(what, i, j, deal) : lost <= 0 ? 0 : what == 2 ? 1 : lost;
                sum += (long) at(0, i, 0) * at(1, j, 0) * figured;
            }
        }
        return sum;
    }

    long outcome(int d, int what) {
        if (!in(d, 0, 7) || !in(what, 0, 3)) return -1 - LONG;
        long refusal = ready() ? refusalOfPaper(d) : -3;
        return refusal != 0 ? refusal - LONG : outcomeOf(kindOn[d], figureOn[d], what);
    }

    long bestPaper(int d, int figure, int what) {
        if (!in(d, 0, 7) || !in(figure, 0, 999) || !in(what, 0, 1)) return -1;
        if (!ready()) return -3;
        if (empty(d)) return -11;
        if (rowOn[d] == null || sortOn[d] != 0) return -12;
        if (!in(rowOn[d].length, 1, 8)) return -13;
        for (long kind : rowOn[d]) {
            if (!in(kind, 0, 7)) return -13;
        }
        int best = -1;
        long most = Long.MIN_VALUE;
        for (int k = 0; k < rowOn[d].length; k++) {
            long zero = outcomeOf((int) rowOn[d][k], figure, 0);
            long one = outcomeOf((int) rowOn[d][k], figure, 1);
            long value = what == 0 ? zero + one : Math.min(zero, one);
            if (value > most) {
                most = value;
                best = k;
            }
        }
        return best;
    }

    long knowing() {
        if (!ready()) return -3 - LONG;
        long sum = 0;
        for (int i = 0; i < n(0); i++) {
            int p = best(0, i);
            for (int j = 0; j < n(1); j++) {
                long most = Long.MIN_VALUE;
                for (int q = 0; q <= 999; q++) {
                    most = Math.max(most, gain(0, i, j, byName(0, i, j, q)));
                }
                sum += (long) at(0, i, 0) * at(1, j, 0) * (most - gain(0, i, j, byName(0, i, j, p)));
            }
        }
        return sum;
    }

    long edge(int o, int a, int b, int s) {
        if (!hasSign(o, a) || !hasSign(o, b) || a == b || !hasSign(1 - o, s)) return -1;
        if (!ready(o)) return -3;
        int old = best(1 - o, s);
        State was = now;
        try {
            for (int n = 1; n <= 99 && was.signs.get(o).get(a)[0] - n >= 1; n++) {
                now = was.copy();
                now.signs.get(o).get(a)[0] -= n;
                now.signs.get(o).get(b)[0] += n;
                if (best(1 - o, s) != old) return n;
            }
            return -4;
        } finally {
            now = was;
        }
    }

    long piece(int first, int second) {
        if (!in(first, 0, 99) || !in(second, 0, 99)) return -1;
        if (now.pieces.size() == 8) return -2;
        now.pieces.add(new int[] {first, second});
        return now.pieces.size() - 1;
    }

    long cut(int o, int what) {
        if (!in(o, 0, 1) || !in(what, 0, 1)) return -1;
        int best = 0;
        int most = -1;
        for (int set = 0; set < Math.pow(2, now.pieces.size()); set++) {
            int[][] worth = new int[2][2];
            for (int k = 0; k < now.pieces.size(); k++) {
                int side = set / (int) Math.pow(2, k) % 2;
                worth[side][0] += now.pieces.get(k)[0];
                worth[side][1] += now.pieces.get(k)[1];
            }
            int left = worth[1][1 - o] > worth[0][1 - o] ? worth[0][o] : worth[1][o];
            if (left > most) {
                most = left;
                best = set;
            }
        }
        return what == 0 ? best : most;
    }

    int drawn(int o, int lot) {
        int s = 0;
        int sum = at(o, 0, 0);
        while (lot >= sum) {
            s++;
            sum += at(o, s, 0);
        }
        return s;
    }

    long lots(int d, int n, int z, int what) {
        if (!in(d, 0, 7) || !in(n, 1, 50) || !in(what, 0, 2)) return -1;
        long refusal = ready() ? refusalOfPaper(d) : -3;
        if (refusal != 0) return refusal;
        int[] who = new int[3];
        for (int k = 0; k < n; k++) {
            z = z * 1103515245 + 12345;
            int i = drawn(0, (z & 0x7fffffff) / 65536 % 100);
            z = z * 1103515245 + 12345;
            int j = drawn(1, (z & 0x7fffffff) / 65536 % 100);
            who[byPaper(kindOn[d], figureOn[d], i, j, told(kindOn[d], 0, i), told(kindOn[d], 1, j)).who()]++;
        }
        return who[what];
    }

    // ---- the image, what is told

    long image() {
        image = now.copy();
        return n(0) + n(1);
    }

    long restore() {
        if (image == null) return -3;
        now = image.copy();
        return n(0) + n(1);
    }

    long count(int what) {
        if (in(what, 0, 1)) return n(what);
        if (in(what, 2, 3)) return chances(what - 2);
        return what == 4 ? now.pieces.size() : what == 5 ? part(1) : -1;
    }

    // ---- shelves

    long keep(int d, int what, int k, int figure) {
        if (!in(d, 0, 7) || !in(what, 0, 1)) return -1;
        if (what == 1 && (!in(k, 0, 7) || !in(figure, 0, 999))) return -1;
        rowOn[d] = null;
        kindOn[d] = what == 0 ? -1 : k;
        figureOn[d] = figure;
        return 0;
    }

    long row(int d, int sort, int n) {
        if (!in(d, 0, 7) || !in(sort, 0, 2) || n > 100) return -1;
        if (n < 0) return -14;
        kindOn[d] = -1;
        sortOn[d] = sort;
        rowOn[d] = new long[n];
        return 0;
    }

    long put(int d, int i, int v) {
        if (!in(d, 0, 7)) return -1;
        if (empty(d)) return -11;
        if (rowOn[d] == null) return -12;
        if (!in(i, 0, rowOn[d].length - 1)) return -13;
        int shift = sortOn[d] == 0 ? 24 : sortOn[d] == 1 ? 16 : 0;
        rowOn[d][i] = v << shift >> shift;
        return 0;
    }

    long element(int d, int i) {
        if (!in(d, 0, 7)) return THROWS_ARGUMENT;
        if (rowOn[d] == null || !in(i, 0, rowOn[d].length - 1)) return THROWS_STATE;
        return rowOn[d][i];
    }

    long copy(int d, int i, int e, int j, int n) {
        if (!in(d, 0, 7) || !in(e, 0, 7)) return -1;
        if (empty(d) || empty(e)) return -11;
        if (rowOn[d] == null || rowOn[e] == null || sortOn[d] != sortOn[e]) return -12;
        if (n < 0 || i < 0 || j < 0) return -13;
        if ((long) i + n > rowOn[d].length || (long) j + n > rowOn[e].length) return -13;
        long[] from = rowOn[d].clone();
        for (int k = 0; k < n; k++) {
            rowOn[e][j + k] = from[i + k];
        }
        return n;
    }

    int heft(int kind, int figure) {
        int[] hefts = {1, 1 + figure, 3, 3 + figure / 10, 51, 2 * (1 + figure), 8, 5};
        return hefts[kind];
    }

    long weight(int d) {
        if (!in(d, 0, 7)) return -1;
        long refusal = refusalOfPaper(d);
        return refusal != 0 ? refusal : heft(kindOn[d], figureOn[d]);
    }

    long toss(int d) {
        if (!in(d, 0, 7)) return -1;
        long refusal = refusalOfPaper(d);
        if (refusal != 0) return refusal;
        if (kindOn[d] == 4 || figureOn[d] == 0) return -15;
        return kindOn[d] == 3 ? 1000 + figureOn[d] : kindOn[d] == 6 ? 2008 : figureOn[d];
    }
}
