/** Promises 19 to 25: outcome, bestPaper, knowing, edge, piece, cut, lots. */
public final class OutcomesTest {
    private static final Checks C = new Checks();
    private static final long LONG = 4000000000000000000L;

    /** OWNER 0: 200 in 60, 100 in 40; OWNER 1: 150 in 50, 250 in 50. */
    private static MillPaper four() {
        MillPaper x = new MillPaper();
        x.sign(0, 60, 200, 300);
        x.sign(0, 40, 100, 300);
        x.sign(1, 50, 150, 300);
        x.sign(1, 50, 250, 300);
        return x;
    }

    private static void told(String call, MillPaper x, long zero, long one, long wrong, long lost) {
        C.due(call + ": MEAN of 0", x.outcome(0, 0), zero);
        C.due(call + ": MEAN of 1", x.outcome(0, 1), one);
        C.due(call + ": WRONG", x.outcome(0, 2), wrong);
        C.due(call + ": LOST", x.outcome(0, 3), lost);
    }

    private static void outcome() {
        MillPaper x = four();
        x.keep(0, 1, 6, 150);
        told("THIRD", x, 105000000, 95000000, 3000, 150000);
        x.keep(0, 1, 2, 0);
        told("SEALED", x, 107500000, 107500000, 0, 0);
        x.keep(0, 1, 1, 0);
        // 151 by sign 0: OWNER 0 has it at 150, OWNER 1 at 250; 150 by sign 1: OWNER 1 has it.
        told("NAME", x, 60L * 50 * (12450 + 7550) + 40L * 100 * 7500,
            60L * 50 * (7550 + 17450) + 40L * 50 * (7500 + 17500), 0, 0);
        x.keep(0, 1, 5, 200);
        // CUT at 200: 150 doesn't buy, OWNER 0 must; 250 buys.
        told("CUT", x, 60L * 50 * 20000 + 40L * 50 * (0 + 10000),
            60L * 50 * (10000 + 15000) + 40L * 50 * (10000 + 15000), 2000, 2000 * 50);
        x.keep(0, 1, 0, 0);
        told("WAY", x, 0, 0, 10000, 3000 * 200 + 3000 * 250 + 2000 * 150 + 2000 * 250);
        x.set(1, 200);
        told("WAY for 200", x, 100000000, 100000000, 5000, 5000 * 50);
        x.keep(0, 1, 4, 200);
        told("OUTSIDE for 200", x, 100000000, 100000000, 5000, 5000 * 50);
        x.keep(0, 1, 4, 201);
        told("OUTSIDE for 0", x, 0, 0, 10000, 3000 * 200 + 3000 * 250 + 2000 * 150 + 2000 * 250);
        x.set(1, 300);
        x.keep(0, 1, 0, 0);
        told("WAY for more than it is worth", x, 150000000, 150000000, 0, 0);
    }

    private static void bids() {
        MillPaper x = four();
        x.keep(0, 1, 3, 0);
        // RISE: 151, 201, 101, 101.
        told("RISE", x, 3000L * (20000 - 7550) + 3000L * 10050 + 4000L * 5050,
            3000L * 7550 + 3000L * (25000 - 10050) + 2000L * (15000 - 5050) + 2000L * (25000 - 5050), 0, 0);
        x.keep(0, 1, 7, 0);
        // HALVED: 175, 225, 125, 175.
        told("HALVED", x, 3000L * (20000 - 8750) + 3000L * 11250 + 2000L * 6250 + 2000L * 8750,
            3000L * 8750 + 3000L * (25000 - 11250) + 2000L * (15000 - 6250) + 2000L * (25000 - 8750), 0, 0);
        C.due("outcome: shelf 8", x.outcome(8, 0), -1 - LONG);
        C.due("outcome: what 4", x.outcome(0, 4), -1 - LONG);
        C.due("outcome: what -1", x.outcome(0, -1), -1 - LONG);
        C.due("outcome: nothing", x.outcome(1, 0), -11 - LONG);
        x.row(1, 0, 1);
        C.due("outcome: a ROW", x.outcome(1, 0), -12 - LONG);
        MillPaper y = new MillPaper();
        y.sign(0, 100, 5, 5);
        C.due("outcome: not READY, ahead of nothing", y.outcome(0, 0), -3 - LONG);
        C.due("outcome: shelf 8, ahead of not READY", y.outcome(8, 0), -1 - LONG);
    }

    private static void kinds(MillPaper x, int... kinds) {
        x.row(1, 0, kinds.length);
        for (int k = 0; k < kinds.length; k++) {
            x.put(1, k, kinds[k]);
        }
    }

    private static void bestPaper() {
        MillPaper x = four();
        kinds(x, 0, 6, 2);
        C.due("bestPaper: most together", x.bestPaper(1, 150, 0), 2);
        C.due("bestPaper: most for who gets less", x.bestPaper(1, 150, 1), 2);
        kinds(x, 0, 2, 7, 3);
        C.due("bestPaper: of several the first", x.bestPaper(1, 150, 0), 1);
        kinds(x, 3, 2, 6);
        C.due("bestPaper: RISE is as much together", x.bestPaper(1, 150, 0), 0);
        C.due("bestPaper: RISE leaves OWNER 0 less", x.bestPaper(1, 150, 1), 1);
        kinds(x, 0, 0);
        C.due("bestPaper: like ones", x.bestPaper(1, 0, 0), 0);
        x.row(1, 0, 8);
        C.due("bestPaper: eight", x.bestPaper(1, 0, 0), 0);
        x.row(1, 0, 9);
        C.due("bestPaper: nine", x.bestPaper(1, 0, 0), -13);
        x.row(1, 0, 0);
        C.due("bestPaper: no elements", x.bestPaper(1, 0, 0), -13);
        kinds(x, 0, 8);
        C.due("bestPaper: KIND 8", x.bestPaper(1, 0, 0), -13);
        kinds(x, -1);
        C.due("bestPaper: KIND -1", x.bestPaper(1, 0, 0), -13);
        x.row(1, 1, 9);
        C.due("bestPaper: shorts, ahead of nine", x.bestPaper(1, 0, 0), -12);
        x.keep(1, 1, 0, 0);
        C.due("bestPaper: a PAPER", x.bestPaper(1, 0, 0), -12);
        C.due("bestPaper: nothing", x.bestPaper(2, 0, 0), -11);
        C.due("bestPaper: shelf 8", x.bestPaper(8, 0, 0), -1);
        C.due("bestPaper: FIGURE 1000", x.bestPaper(2, 1000, 0), -1);
        C.due("bestPaper: FIGURE -1", x.bestPaper(2, -1, 0), -1);
        C.due("bestPaper: what 2", x.bestPaper(2, 0, 2), -1);
        C.due("bestPaper: not READY, ahead of nothing", new MillPaper().bestPaper(2, 0, 0), -3);
        C.due("bestPaper: what -1, ahead of not READY", new MillPaper().bestPaper(2, 0, -1), -1);
    }

    private static void bestPaperBelowZero() {
        MillPaper x = new MillPaper();
        x.sign(0, 100, 0, 999);
        x.sign(1, 100, 0, 999);
        kinds(x, 5, 5);
        C.due("bestPaper: less than 0 for one", x.bestPaper(1, 999, 1), 0);
        kinds(x, 5, 0);
        C.due("bestPaper: 0 is more than below 0", x.bestPaper(1, 999, 1), 1);
    }

    private static void knowing() {
        C.due("knowing", four().knowing(), 14850000L + 10000000L);
        MillPaper x = new MillPaper();
        x.sign(0, 100, 200, 300);
        C.due("knowing: not READY", x.knowing(), -3 - LONG);
        x.sign(1, 100, 150, 300);
        C.due("knowing: one SIGN is known", x.knowing(), 0);
    }

    private static void edge() {
        MillPaper x = four();
        C.due("edge: at once", x.edge(1, 0, 1, 0), 1);
        C.due("edge: 17 of 50", x.edge(1, 0, 1, 1), 17);
        C.due("edge: none", x.edge(1, 1, 0, 1), -4);
        C.due("edge: the chances are as they were", x.of(1, 0, 0), 50);
        C.due("edge: a is b", x.edge(1, 1, 1, 0), -1);
        C.due("edge: no a", x.edge(1, 2, 1, 0), -1);
        C.due("edge: no b", x.edge(1, 0, -1, 0), -1);
        C.due("edge: no sign of the other", x.edge(1, 0, 1, 2), -1);
        C.due("edge: owner 2", x.edge(2, 0, 1, 0), -1);
        MillPaper y = new MillPaper();
        y.sign(0, 100, 100, 300);
        y.sign(1, 67, 150, 300);
        y.sign(1, 33, 250, 300);
        C.due("edge: all but one may go", y.edge(1, 0, 1, 0), 34);
        MillPaper z = new MillPaper();
        z.sign(0, 1, 100, 300);
        z.sign(1, 1, 150, 300);
        z.sign(1, 98, 250, 300);
        C.due("edge: not READY", z.edge(1, 0, 1, 0), -3);
        C.due("edge: a is b, ahead of not READY", z.edge(1, 0, 0, 0), -1);
        z.sign(1, 1, 150, 300);
        C.due("edge: 1 is left, so none can go", z.edge(1, 0, 1, 0), -4);
    }

    private static void pieces() {
        MillPaper x = new MillPaper();
        C.due("cut: no PIECES", x.cut(0, 0), 0);
        C.due("cut: no PIECES, what it has", x.cut(0, 1), 0);
        C.due("piece: -1", x.piece(-1, 0), -1);
        C.due("piece: 100", x.piece(100, 0), -1);
        C.due("piece: second -1", x.piece(0, -1), -1);
        C.due("piece: second 100", x.piece(0, 100), -1);
        C.due("piece: 0", x.piece(50, 10), 0);
        // The one PIECE is worth more to OWNER 1: it takes it; the empty set leaves it too.
        C.due("cut: one PIECE", x.cut(0, 0), 0);
        C.due("cut: one PIECE, what it has", x.cut(0, 1), 0);
        x.piece(30, 40);
        x.piece(20, 20);
        C.due("cut: by OWNER 0", x.cut(0, 0), 2);
        C.due("cut: by OWNER 0, what it has", x.cut(0, 1), 70);
        C.due("cut: by OWNER 1", x.cut(1, 0), 6);
        C.due("cut: by OWNER 1, what it has", x.cut(1, 1), 60);
        C.due("cut: owner 2", x.cut(2, 0), -1);
        C.due("cut: owner -1", x.cut(-1, 0), -1);
        C.due("cut: what 2", x.cut(0, 2), -1);
        C.due("cut: what -1", x.cut(0, -1), -1);
        for (int k = 3; k < 8; k++) {
            C.due("piece: " + k, x.piece(99, 99), k);
        }
        C.due("piece: no room", x.piece(1, 1), -2);
        C.due("piece: out of range, ahead of no room", x.piece(1, 100), -1);
        C.due("piece: eight", x.count(4), 8);
    }

    private static void likePieces() {
        MillPaper x = new MillPaper();
        x.piece(10, 5);
        x.piece(7, 5);
        // Of like ones OWNER 1 takes the rest: the set {0} leaves 10, its like {1} leaves 7.
        C.due("cut: the rest of like ones", x.cut(0, 0), 1);
        C.due("cut: the rest of like ones, what it has", x.cut(0, 1), 10);
        MillPaper y = new MillPaper();
        y.piece(9, 0);
        C.due("cut: worth nothing to the other", y.cut(0, 0), 1);
        C.due("cut: worth nothing to the other, what it has", y.cut(0, 1), 9);
    }

    /** From 1 the lots are 38 58, 13 15, 51 27, 10 19, 12 86. */
    private static void lots() {
        MillPaper x = new MillPaper();
        x.sign(0, 30, 100, 999);
        x.sign(0, 70, 300, 999);
        x.sign(1, 50, 200, 999);
        C.due("lots: not READY, ahead of nothing", x.lots(0, 5, 1, 0), -3);
        C.due("lots: n 0, ahead of not READY", x.lots(0, 0, 1, 0), -1);
        x.sign(1, 50, 400, 999);
        C.due("lots: nothing", x.lots(0, 5, 1, 0), -11);
        x.row(0, 0, 1);
        C.due("lots: a ROW", x.lots(0, 5, 1, 0), -12);
        x.keep(0, 1, 2, 0);
        C.due("lots: OWNER 0", x.lots(0, 5, 1, 0), 1);
        C.due("lots: OWNER 1", x.lots(0, 5, 1, 1), 4);
        C.due("lots: OUTSIDE", x.lots(0, 5, 1, 2), 0);
        C.due("lots: not yet", x.lots(0, 2, 1, 0), 0);
        C.due("lots: 50", x.lots(0, 50, -7, 0) + x.lots(0, 50, -7, 1) + x.lots(0, 50, -7, 2), 50);
        C.due("lots: 51", x.lots(0, 51, 1, 0), -1);
        C.due("lots: what 3", x.lots(0, 5, 1, 3), -1);
        C.due("lots: what -1", x.lots(0, 5, 1, -1), -1);
        C.due("lots: shelf 8", x.lots(8, 5, 1, 0), -1);
        x.keep(0, 1, 0, 0);
        C.due("lots: by a WAY", x.lots(0, 5, 1, 2), 5);
    }

    private static void lotAtAnEdge() {
        for (int chance = 38; chance <= 39; chance++) {
            MillPaper x = new MillPaper();
            x.sign(0, chance, 100, 999);
            x.sign(0, 100 - chance, 300, 999);
            x.sign(1, 100, 200, 999);
            x.keep(0, 1, 2, 0);
            C.due("lots: 38 is below " + chance, x.lots(0, 1, 1, 1), chance - 38);
        }
    }

    public static void main(String[] args) {
        outcome();
        bids();
        bestPaper();
        bestPaperBelowZero();
        knowing();
        edge();
        pieces();
        likePieces();
        lots();
        lotAtAnEdge();
        C.end();
    }
}
