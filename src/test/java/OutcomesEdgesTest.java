/** Promises 19 to 25, at the edges that their sentences name: each refusal alone, which comes first, and that nothing changes. */
public final class OutcomesEdgesTest {
    private static final Checks C = new Checks();
    private static final Unchanged NEW = new Unchanged(C, MillPaper::new);
    private static final Unchanged READY = new Unchanged(C, States::ready);
    private static final Unchanged FULL = new Unchanged(C, States::full);
    private static final Unchanged ZERO_UNREADY = new Unchanged(C, States::zeroUnready);
    private static final Unchanged ONE_UNREADY = new Unchanged(C, States::oneUnready);
    private static final long LONG = 4000000000000000000L;
    private static final int SEALED = States.SEALED;
    private static final int BIDS = States.BIDS;
    private static final int KINDS = States.KINDS;
    private static final int NOTHING = States.NOTHING;

    // ---- promise 19: outcome

    private static void beyondOfOutcome(String where, Unchanged state) {
        for (int d : Beyond.SHELVES) {
            state.due("outcome: SHELF " + d + where, x -> x.outcome(d, 0), -1 - LONG);
        }
        for (int what : Beyond.from0To(3)) {
            state.due("outcome: what " + what + where, x -> x.outcome(SEALED, what), -1 - LONG);
            state.due("outcome: what " + what + ", ahead of nothing" + where, x -> x.outcome(NOTHING, what), -1 - LONG);
            state.due("outcome: what " + what + ", ahead of a ROW" + where, x -> x.outcome(BIDS, what), -1 - LONG);
        }
    }

    private static void refusedOutcomes() {
        for (int k = 0; k <= 3; k++) {
            int what = k;
            String call = "outcome: what " + k;
            ZERO_UNREADY.due(call + ", OWNER 0 isn't READY", x -> x.outcome(SEALED, what), -3 - LONG);
            ONE_UNREADY.due(call + ", OWNER 1 isn't READY", x -> x.outcome(SEALED, what), -3 - LONG);
            ZERO_UNREADY.due(call + ", not READY, ahead of nothing", x -> x.outcome(NOTHING, what), -3 - LONG);
            ONE_UNREADY.due(call + ", not READY, ahead of a ROW", x -> x.outcome(BIDS, what), -3 - LONG);
            NEW.due(call + ", no SIGNS, ahead of nothing", x -> x.outcome(0, what), -3 - LONG);
            READY.due(call + ", nothing is held", x -> x.outcome(NOTHING, what), -11 - LONG);
            READY.due(call + ", a ROW", x -> x.outcome(BIDS, what), -12 - LONG);
        }
    }

    private static void told(String call, MillPaper x, long zero, long one, long wrong, long lost) {
        C.due(call + ": MEAN of OWNER 0", x.outcome(7, 0), zero);
        C.due(call + ": MEAN of OWNER 1", x.outcome(7, 1), one);
        C.due(call + ": WRONG", x.outcome(7, 2), wrong);
        C.due(call + ": LOST", x.outcome(7, 3), lost);
    }

    private static MillPaper paper(MillPaper x, int kind, int figure) {
        x.keep(7, 1, kind, figure);
        return x;
    }

    private static void outcomesToTheEnds() {
        MillPaper x = paper(States.oneOfEach(999, 999, 0, 999), 0, 0);
        told("WAY, for 0", x, 0, 0, 10000, 9990000);
        x.set(1, 999);
        x.set(0, 99);
        told("WAY, for 999", x, 989010000, 9990000, 0, 0);
        x.set(0, 1);
        told("SEALED, at all that it is WORTH", paper(x, 2, 0), 99900L * 10000 - 989010000L, 989010000, 0, 0);
        // OWNER 0 must buy at 999 what is WORTH nothing to it.
        MillPaper y = paper(States.oneOfEach(0, 999, 0, 0), 5, 999);
        y.set(0, 1);
        told("CUT, the least MEAN", y, -989010000, 989010000, 0, 0);
    }

    private static void wrongAndLost() {
        MillPaper x = paper(States.oneOfEach(200, 999, 200, 999), 5, 100);
        told("CUT, WORTH as much to both", x, 50000000, 150000000, 0, 0);
        x.change(1, 0, 1, 199);
        told("CUT, WORTH one less", x, 50000000, 149000000, 10000, 10000);
        x.change(1, 0, 1, 201);
        told("CUT, WORTH one more", x, 50000000, 151000000, 0, 0);
        paper(x, 0, 0);
        x.set(1, 201);
        told("WAY, for the greater WORTH", x, 100500000, 100500000, 0, 0);
        x.set(1, 200);
        told("WAY, for one less", x, 100000000, 100000000, 10000, 10000);
        x.set(1, 202);
        told("WAY, for one more", x, 101000000, 101000000, 0, 0);
        paper(x, 4, 203);
        told("OUTSIDE, strangers give less than the FIGURE", x, 0, 0, 10000, 2010000);
        paper(x, 4, 202);
        told("OUTSIDE, strangers give the FIGURE", x, 101000000, 101000000, 0, 0);
        told("OUTSIDE for 0, WORTH 0 to both", paper(States.oneOfEach(0, 0, 0, 0), 4, 999), 0, 0, 0, 0);
    }

    /** OWNER 1 has it at 100, whatever it is: it is WORTH 200, 151 to OWNER 0 and 200, 150 to OWNER 1. */
    private static void leastChances() {
        MillPaper x = new MillPaper();
        x.sign(0, 99, 200, 999);
        x.sign(0, 1, 151, 999);
        x.sign(1, 99, 200, 999);
        x.sign(1, 1, 150, 999);
        told("CUT, 99 and 1, 1 and 1 of 10000", paper(x, 5, 100),
            50000000, 9900L * 15000 + 100L * 10000, 100, 99 * 50 + 1);
    }

    private static void oneAndSeveral() {
        MillPaper x = new MillPaper();
        x.sign(0, 100, 200, 999);
        x.sign(1, 50, 100, 999);
        x.sign(1, 30, 250, 999);
        x.sign(1, 20, 300, 999);
        // OWNER 0 has it at 200 in 50, OWNER 1 at 250 in 30 and at 300 in 20.
        told("SEALED, one and three", paper(x, 2, 0),
            5000L * 10000 + 3000L * 12500 + 2000L * 15000, 5000L * 10000 + 3000L * 12500 + 2000L * 15000, 0, 0);
        told("CUT, one and three", paper(x, 5, 250), 5000L * 7500 + 5000L * 12500,
            5000L * 12500 + 3000L * 12500 + 2000L * 17500, 0, 0);
        MillPaper y = new MillPaper();
        y.sign(0, 50, 100, 999);
        y.sign(0, 30, 250, 999);
        y.sign(0, 20, 300, 999);
        y.sign(1, 100, 200, 999);
        told("SEALED, three and one", paper(y, 2, 0),
            5000L * 10000 + 3000L * 12500 + 2000L * 15000, 5000L * 10000 + 3000L * 12500 + 2000L * 15000, 0, 0);
        told("CUT, three and one", paper(y, 5, 200),
            10000L * 10000, 10000L * 10000, 5000, 3000 * 50 + 2000 * 100);
    }

    private static void outcomesOfFive() {
        MillPaper x = States.full();
        told("SEALED, five and five", paper(x, 2, 0), 205000000, 205000000, 0, 0);
        // By 250, 250, 350, 351 and 351.
        told("NAME, five and five", paper(x, 1, 0), 166960000, 239040000, 400 * 2, 400 * (50 + 50));
        told("WAY, five and five", paper(x, 0, 0), 0, 0, 10000, 400 * 10250);
        FULL.due("outcome: nothing changes", y -> y.outcome(0, 0), 205000000);
    }

    // ---- promise 20: bestPaper

    private static void beyondOfBestPaper(int d, String where, Unchanged state) {
        for (int shelf : Beyond.SHELVES) {
            state.due("bestPaper: SHELF " + shelf + where, x -> x.bestPaper(shelf, 5, 0), -1);
        }
        for (int figure : Beyond.NUMBERS) {
            state.due("bestPaper: FIGURE " + figure + where, x -> x.bestPaper(d, figure, 0), -1);
        }
        for (int what : Beyond.from0To(1)) {
            state.due("bestPaper: what " + what + where, x -> x.bestPaper(d, 5, what), -1);
        }
    }

    private static MillPaper withKinds(int sort, int... kinds) {
        MillPaper x = States.ready();
        States.putRow(x, KINDS, sort, kinds);
        return x;
    }

    private static void bestOf(String call, int due, int sort, int... kinds) {
        Unchanged state = new Unchanged(C, () -> withKinds(sort, kinds));
        state.due("bestPaper: " + call, x -> x.bestPaper(KINDS, 5, 0), due);
        state.due("bestPaper: " + call + ", for who gets less", x -> x.bestPaper(KINDS, 5, 1), due);
    }

    private static void refusedBestPapers() {
        ZERO_UNREADY.due("bestPaper: OWNER 0 isn't READY", x -> x.bestPaper(KINDS, 5, 0), -3);
        ONE_UNREADY.due("bestPaper: OWNER 1 isn't READY", x -> x.bestPaper(KINDS, 5, 1), -3);
        ZERO_UNREADY.due("bestPaper: not READY, ahead of nothing", x -> x.bestPaper(NOTHING, 5, 0), -3);
        ONE_UNREADY.due("bestPaper: not READY, ahead of a PAPER", x -> x.bestPaper(SEALED, 5, 0), -3);
        NEW.due("bestPaper: no SIGNS, ahead of nothing", x -> x.bestPaper(0, 5, 0), -3);
        READY.due("bestPaper: nothing is held", x -> x.bestPaper(NOTHING, 5, 0), -11);
        READY.due("bestPaper: a PAPER", x -> x.bestPaper(SEALED, 5, 1), -12);
        READY.due("bestPaper: shorts", x -> x.bestPaper(BIDS, 5, 0), -12);
        READY.due("bestPaper: ints, ahead of no KINDS", x -> x.bestPaper(States.INTS, 5, 0), -12);
        bestOf("shorts that are KINDS", -12, 1, 0, 1);
        bestOf("ints that are KINDS", -12, 2, 0, 1);
        bestOf("no shorts", -12, 1);
        bestOf("nine ints", -12, 2, new int[9]);
        bestOf("no bytes", -13, 0);
        bestOf("nine bytes", -13, 0, new int[9]);
        bestOf("a hundred bytes", -13, 0, new int[100]);
        for (int k = 0; k < 8; k++) {
            int[] kinds = new int[8];
            kinds[k] = 8;
            bestOf("element " + k + " is 8", -13, 0, kinds);
            kinds[k] = -1;
            bestOf("element " + k + " is -1", -13, 0, kinds);
        }
        bestOf("127", -13, 0, 127);
        bestOf("128 is -128", -13, 0, 128);
        bestOf("255 is -1", -13, 0, 255);
        bestOf("256 is 0", 0, 0, 256);
        bestOf("263 is 7", 0, 0, 263);
        bestOf("-249 is 7", 0, 0, -249);
    }

    private static void best(String call, MillPaper x, int figure, int together, int less, int... kinds) {
        States.putRow(x, 7, 0, kinds);
        C.due("bestPaper: " + call + ", for both", x.bestPaper(7, figure, 0), together);
        C.due("bestPaper: " + call + ", for who gets less", x.bestPaper(7, figure, 1), less);
    }

    /**
     * Together 30000 (times 10000) by NAME, SEALED, RISE, THIRD, HALVED, 20000 by CUT, else 0; for who
     * gets less 15000 by SEALED, 12500 by HALVED, 10050 by NAME and RISE, 5000 by CUT and THIRD.
     */
    private static void bestPaper() {
        MillPaper x = States.oneOfEach(300, 999, 200, 999);
        best("all of them", x, 100, 1, 2, 0, 1, 2, 3, 4, 5, 6, 7);
        best("all of them, turned round", x, 100, 0, 5, 7, 6, 5, 4, 3, 2, 1, 0);
        best("the last of eight", x, 100, 7, 7, 0, 4, 5, 5, 0, 4, 0, 7);
        best("THIRD for both, CUT comes ahead of it", x, 100, 2, 1, 0, 5, 6);
        best("NAME and RISE are alike", x, 100, 1, 1, 5, 3, 1);
        best("HALVED and RISE", x, 100, 0, 1, 3, 7);
        best("one, KIND 0", x, 0, 0, 0, 0);
        best("one, KIND 7", x, 999, 0, 0, 7);
        best("eight that are alike", x, 0, 0, 0, 4, 4, 4, 4, 4, 4, 4, 4);
        best("CUT at 0 leaves OWNER 0 nothing", x, 0, 1, 0, 0, 5);
        best("CUT at 300 is as good as SEALED", x, 300, 0, 0, 5, 2);
        best("CUT at 301 is less so", x, 301, 0, 1, 5, 2);
        best("CUT at 999 leaves OWNER 0 less than nothing", x, 999, 1, 0, 0, 5);
        best("one that leaves less than nothing", x, 999, 0, 0, 5);
    }

    // ---- promise 21: knowing

    private static void knowing() {
        NEW.due("knowing: no SIGNS", x -> x.knowing(), -3 - LONG);
        ZERO_UNREADY.due("knowing: OWNER 0 isn't READY", x -> x.knowing(), -3 - LONG);
        ONE_UNREADY.due("knowing: OWNER 1 isn't READY", x -> x.knowing(), -3 - LONG);
        FULL.due("knowing: five and five", x -> x.knowing(), 67840000);
        C.due("knowing: one SIGN is known already", States.oneOfEach(300, 999, 200, 999).knowing(), 0);
        // One of 99 pays 999, one of 1 pays 0: by 999 just the latter's 1 of WORTH 1 is had too dearly.
        MillPaper x = new MillPaper();
        x.sign(0, 100, 1, 0);
        x.sign(1, 99, 999, 999);
        x.sign(1, 1, 0, 0);
        C.due("knowing: neither can buy at 999, at 0 it is sold for nothing", x.knowing(), 0);
        x.set(1, 100);
        x.change(0, 0, 2, 999);
        // By 999 OWNER 0 must buy in the one: 100 - 49950; knowing it, it names 1 and has 100 - 50.
        C.due("knowing: of one in a hundred", x.knowing(), 100 * (50 + 49850));
    }

    /** By 150, 151 and 351 it has 7500, 15000, 22450; knowing it, 7500 or 17500, 22450 or 17500, 32450 or 22450. */
    private static void knowingOfThree() {
        MillPaper x = new MillPaper();
        x.sign(0, 50, 100, 999);
        x.sign(0, 30, 300, 999);
        x.sign(0, 20, 400, 999);
        x.sign(1, 50, 150, 999);
        x.sign(1, 50, 350, 999);
        C.due("knowing: three and two", x.knowing(), 100 * (50 * 5000 + 30 * 4975 + 20 * 5000));
        MillPaper y = new MillPaper();
        y.sign(0, 100, 300, 999);
        y.sign(1, 50, 150, 999);
        y.sign(1, 50, 350, 999);
        C.due("knowing: one and two", y.knowing(), 10000 * 4975);
    }

    // ---- promise 22: edge

    private static void beyondOfEdge(String where, Unchanged state) {
        for (int owner : Beyond.OWNERS) {
            state.due("edge: owner " + owner + where, x -> x.edge(owner, 0, 1, 0), -1);
        }
        for (int sign : Beyond.THREE_SIGNS) {
            for (int owner = 0; owner < 2; owner++) {
                int o = owner;
                state.due("edge: OWNER " + o + ", a " + sign + where, x -> x.edge(o, sign, 1, 0), -1);
                state.due("edge: OWNER " + o + ", b " + sign + where, x -> x.edge(o, 0, sign, 0), -1);
                state.due("edge: OWNER " + o + ", by sign " + sign + where, x -> x.edge(o, 0, 1, sign), -1);
            }
        }
        for (int sign = 0; sign < 3; sign++) {
            int s = sign;
            state.due("edge: a and b are " + s + where, x -> x.edge(0, s, s, 0), -1);
            state.due("edge: a and b of OWNER 1 are " + s + where, x -> x.edge(1, s, s, 0), -1);
        }
    }

    private static void refusedEdges() {
        NEW.due("edge: no SIGNS", x -> x.edge(0, 0, 1, 0), -1);
        ZERO_UNREADY.due("edge: OWNER 0 isn't READY", x -> x.edge(0, 0, 1, 0), -3);
        ONE_UNREADY.due("edge: OWNER 1 isn't READY", x -> x.edge(1, 2, 0, 2), -3);
        MillPaper x = new MillPaper();
        x.sign(0, 50, 400, 999);
        x.sign(0, 50, 5, 999);
        x.sign(1, 100, 0, 0);
        C.due("edge: the other one has no such sign", x.edge(0, 0, 1, 1), -1);
        C.due("edge: that one has no such sign", x.edge(1, 0, 1, 0), -1);
    }

    /** The other one would sell at 400 to the one with so many hundredths, or at 5 to all of 100. */
    private static MillPaper dear(int owner, int hundredths, int worth) {
        MillPaper x = new MillPaper();
        x.sign(owner, hundredths, worth, 999);
        x.sign(owner, 100 - hundredths, 5, 999);
        x.sign(1 - owner, 100, 0, 0);
        return x;
    }

    private static void edge() {
        for (int owner = 0; owner < 2; owner++) {
            int o = owner;
            String call = "edge: OWNER " + o;
            new Unchanged(C, () -> dear(o, 2, 400)).due(call + ", the least", x -> x.edge(o, 0, 1, 0), 1);
            new Unchanged(C, () -> dear(o, 99, 400)).due(call + ", the greatest", x -> x.edge(o, 0, 1, 0), 98);
            new Unchanged(C, () -> dear(o, 99, 999)).due(call + ", 1 must be left", x -> x.edge(o, 0, 1, 0), -4);
            new Unchanged(C, () -> dear(o, 1, 600)).due(call + ", just 1 is there", x -> x.edge(o, 0, 1, 0), -4);
            new Unchanged(C, () -> dear(o, 99, 400)).due(call + ", the other way", x -> x.edge(o, 1, 0, 0), -4);
            new Unchanged(C, () -> dear(o, 1, 400)).due(call + ", the other way, at once", x -> x.edge(o, 1, 0, 0), 1);
            C.due(call + ", best price of 2 hundredths", dear(o, 2, 400).bestPrice(1 - o, 0), 400);
            C.due(call + ", best price of 1 hundredth", dear(o, 1, 400).bestPrice(1 - o, 0), 5);
            C.due(call + ", as much by 5 is the less price", dear(o, 1, 500).bestPrice(1 - o, 0), 5);
        }
    }

    /** The same with three SIGNS ahead that never buy, 96 and 1. */
    private static void edgeOfTheLastSigns() {
        MillPaper x = new MillPaper();
        for (int s = 0; s < 3; s++) {
            x.sign(1, 1, 0, 0);
        }
        x.sign(1, 1, 5, 999);
        x.sign(1, 96, 400, 999);
        for (int s = 0; s < 5; s++) {
            x.sign(0, 20, 0, 0);
        }
        C.due("edge: from sign 4 to 3, by sign 4", x.edge(1, 4, 3, 4), 95);
        C.due("edge: from sign 4 to 0", x.edge(1, 4, 0, 0), -4);
        C.due("edge: the CHANCE of sign 4 is as it was", x.of(1, 4, 0), 96);
        C.due("edge: the CHANCE of sign 3 is as it was", x.of(1, 3, 0), 1);
    }

    /** OWNER 0's SIGNS name 41 and 400, OWNER 1's 201 and 21, as long as SIGNS are of 50 each. */
    private static void edgeOfEachSign() {
        Unchanged state = new Unchanged(C, States::coins);
        int[][] fromFirst = {{27, -4}, {-4, 40}};
        int[][] fromSecond = {{-4, 1}, {1, -4}};
        for (int owner = 0; owner < 2; owner++) {
            for (int sign = 0; sign < 2; sign++) {
                int o = owner;
                int s = sign;
                String call = "edge: OWNER " + owner + ", by sign " + sign;
                state.due(call + ", from 0 to 1", x -> x.edge(o, 0, 1, s), fromFirst[owner][sign]);
                state.due(call + ", from 1 to 0", x -> x.edge(o, 1, 0, s), fromSecond[owner][sign]);
            }
        }
    }

    // ---- promises 23 and 24: piece and cut

    private static void beyondOfPieces(String where, Unchanged state) {
        for (int worth : Beyond.from0To(99)) {
            state.due("piece: first " + worth + where, x -> x.piece(worth, 5), -1);
            state.due("piece: second " + worth + where, x -> x.piece(5, worth), -1);
        }
    }

    private static void pieces() {
        FULL.due("piece: no room", x -> x.piece(5, 5), -2);
        FULL.due("piece: no room for nothing", x -> x.piece(0, 0), -2);
        MillPaper x = new MillPaper();
        for (int k = 0; k < 8; k++) {
            C.due("piece: number " + k, x.piece(k % 2 == 0 ? 0 : 99, k % 2 == 0 ? 99 : 0), k);
            C.due("piece: so many", x.count(4), k + 1);
        }
        C.due("piece: the ninth", x.piece(0, 0), -2);
        C.due("piece: eight, still", x.count(4), 8);
        // Three of the four that OWNER 1 likes are enough for it to take them: all else is left.
        C.due("cut: each has what it likes", x.cut(0, 0), 16 + 4 + 1);
        C.due("cut: four times 99", x.cut(0, 1), 396);
        C.due("cut: by OWNER 1", x.cut(1, 0), 32 + 8 + 2);
        C.due("cut: by OWNER 1, four times 99", x.cut(1, 1), 396);
    }

    private static void refusedCuts() {
        for (int owner : Beyond.OWNERS) {
            READY.due("cut: owner " + owner, x -> x.cut(owner, 0), -1);
            NEW.due("cut: owner " + owner + ", no PIECES", x -> x.cut(owner, 1), -1);
        }
        for (int what : Beyond.from0To(1)) {
            READY.due("cut: what " + what, x -> x.cut(0, what), -1);
            READY.due("cut: what " + what + ", OWNER 1", x -> x.cut(1, what), -1);
        }
        for (int owner = 0; owner < 2; owner++) {
            int o = owner;
            NEW.due("cut: no PIECES, OWNER " + o, x -> x.cut(o, 0), 0);
            NEW.due("cut: no PIECES, what OWNER " + o + " has", x -> x.cut(o, 1), 0);
        }
    }

    private static void cutOf(String call, int owner, int set, int has, int... worths) {
        MillPaper x = new MillPaper();
        for (int k = 0; k + 1 < worths.length; k += 2) {
            x.piece(worths[k], worths[k + 1]);
        }
        C.due("cut: " + call + ", the set", x.cut(owner, 0), set);
        C.due("cut: " + call + ", what the cutter has", x.cut(owner, 1), has);
    }

    private static void cut() {
        cutOf("all PIECES, worth nothing to the other", 0, 255, 792,
            99, 0, 99, 0, 99, 0, 99, 0, 99, 0, 99, 0, 99, 0, 99, 0);
        cutOf("the same by OWNER 1", 1, 255, 792, 0, 99, 0, 99, 0, 99, 0, 99, 0, 99, 0, 99, 0, 99, 0, 99);
        cutOf("the least of like sets", 0, 1, 10, 10, 10, 10, 10);
        cutOf("the least of like sets, by OWNER 1", 1, 1, 10, 10, 10, 10, 10);
        cutOf("all are worth nothing", 0, 0, 0, 0, 0, 0, 0);
        cutOf("just one PIECE, the other has it", 0, 0, 0, 99, 1);
        // The set of PIECE 1 is worth as much as the rest: the other takes the rest.
        cutOf("the rest of like ones", 0, 2, 9, 4, 6, 9, 6);
        cutOf("one more, and the set is taken", 0, 1, 4, 4, 6, 9, 7);
    }

    // ---- promise 25: lots

    private static void beyondOfLots(int d, String where, Unchanged state) {
        for (int shelf : Beyond.SHELVES) {
            state.due("lots: SHELF " + shelf + where, x -> x.lots(shelf, 5, 1, 0), -1);
        }
        int[] numbers = {Integer.MIN_VALUE, -1, 0, 51, Integer.MAX_VALUE};
        for (int n : numbers) {
            state.due("lots: n " + n + where, x -> x.lots(d, n, 1, 0), -1);
        }
        for (int what : Beyond.from0To(2)) {
            state.due("lots: what " + what + where, x -> x.lots(d, 5, 1, what), -1);
        }
    }

    private static void refusedLots() {
        ZERO_UNREADY.due("lots: OWNER 0 isn't READY", x -> x.lots(SEALED, 5, 1, 0), -3);
        ONE_UNREADY.due("lots: OWNER 1 isn't READY", x -> x.lots(SEALED, 5, 1, 1), -3);
        ZERO_UNREADY.due("lots: not READY, ahead of nothing", x -> x.lots(NOTHING, 5, 1, 0), -3);
        ONE_UNREADY.due("lots: not READY, ahead of a ROW", x -> x.lots(BIDS, 5, 1, 2), -3);
        NEW.due("lots: no SIGNS, ahead of nothing", x -> x.lots(0, 1, 1, 0), -3);
        READY.due("lots: nothing is held", x -> x.lots(NOTHING, 5, 1, 0), -11);
        READY.due("lots: a ROW", x -> x.lots(BIDS, 5, 1, 0), -12);
    }

    private static void drawn(int n, int seed, int zero) {
        FULL.due("lots: " + n + " from " + seed, x -> x.lots(0, n, seed, 0), zero);
        FULL.due("lots: " + n + " from " + seed + ", OWNER 1", x -> x.lots(0, n, seed, 1), n - zero);
        FULL.due("lots: " + n + " from " + seed + ", OUTSIDE", x -> x.lots(0, n, seed, 2), 0);
    }

    /** Of five and five: OWNER 0 has it where its SIGN's number is the greater one. */
    private static void lots() {
        drawn(1, 0, 0);
        drawn(1, -1, 1);
        drawn(1, Integer.MAX_VALUE, 1);
        drawn(1, Integer.MIN_VALUE, 0);
        drawn(50, 0, 22);
        drawn(50, 1, 22);
        drawn(50, -1, 19);
        drawn(50, Integer.MAX_VALUE, 19);
        drawn(50, Integer.MIN_VALUE, 22);
        drawn(50, 123456789, 20);
        drawn(50, 106, 14);
        drawn(50, 169, 21);
        drawn(50, 366, 17);
    }

    /** At 100 SIGN 1 of each lacks the COIN. */
    private static void lotsByCoins(int kind, int seed, int zero, int one, int outside) {
        MillPaper x = States.coins();
        x.keep(0, 1, kind, 100);
        C.due("lots: KIND " + kind + " from " + seed + ", OWNER 0", x.lots(0, 50, seed, 0), zero);
        C.due("lots: KIND " + kind + " from " + seed + ", OWNER 1", x.lots(0, 50, seed, 1), one);
        C.due("lots: KIND " + kind + " from " + seed + ", OUTSIDE", x.lots(0, 50, seed, 2), outside);
    }

    private static void lotsOfCoins() {
        lotsByCoins(5, 1, 9, 29, 12);
        lotsByCoins(5, 3, 16, 20, 14);
        lotsByCoins(6, 1, 23, 15, 12);
        lotsByCoins(6, 2, 30, 11, 9);
    }

    /** OWNER 0's SIGN 0 is WORTH 100, its SIGN 1 300; OWNER 1's 200: who has it tells what was drawn. */
    private static int firstDrawn(int chance, int seed) {
        MillPaper x = new MillPaper();
        x.sign(0, chance, 100, 999);
        x.sign(0, 100 - chance, 300, 999);
        x.sign(1, 100, 200, 999);
        x.keep(0, 1, 2, 0);
        return x.lots(0, 1, seed, 1);
    }

    /** The same for OWNER 1's lot, which is the second one. */
    private static int secondDrawn(int chance, int seed) {
        MillPaper x = new MillPaper();
        x.sign(0, 100, 200, 999);
        x.sign(1, chance, 100, 999);
        x.sign(1, 100 - chance, 300, 999);
        x.keep(0, 1, 2, 0);
        return x.lots(0, 1, seed, 0);
    }

    /** From 0 the first lots are 0 68, from 15 98 3, from 194 99 69, from 80 76 0, from 27 50 98, from 23 33 99. */
    private static void lotsAtTheEnds() {
        C.due("lots: 0 is below 1", firstDrawn(1, 0), 1);
        C.due("lots: 98 is below 99", firstDrawn(99, 15), 1);
        C.due("lots: 98 isn't below 98", firstDrawn(98, 15), 0);
        C.due("lots: 99 isn't below 99", firstDrawn(99, 194), 0);
        C.due("lots: 0 is below 1, OWNER 1", secondDrawn(1, 80), 1);
        C.due("lots: 98 is below 99, OWNER 1", secondDrawn(99, 27), 1);
        C.due("lots: 98 isn't below 98, OWNER 1", secondDrawn(98, 27), 0);
        C.due("lots: 99 isn't below 99, OWNER 1", secondDrawn(99, 23), 0);
        MillPaper x = States.oneOfEach(0, 0, 0, 0);
        x.keep(0, 1, 0, 0);
        C.due("lots: all OUTSIDE", x.lots(0, 50, 5, 2), 50);
        C.due("lots: none OWNER 0's", x.lots(0, 50, 5, 0), 0);
        C.due("lots: none OWNER 1's", x.lots(0, 50, 5, 1), 0);
    }

    public static void main(String[] args) {
        beyondOfOutcome("", READY);
        beyondOfOutcome(", ahead of OWNER 0 not READY", ZERO_UNREADY);
        beyondOfOutcome(", ahead of OWNER 1 not READY", ONE_UNREADY);
        refusedOutcomes();
        outcomesToTheEnds();
        wrongAndLost();
        leastChances();
        oneAndSeveral();
        outcomesOfFive();
        beyondOfBestPaper(KINDS, "", READY);
        beyondOfBestPaper(NOTHING, ", ahead of nothing", READY);
        beyondOfBestPaper(SEALED, ", ahead of a PAPER", READY);
        beyondOfBestPaper(KINDS, ", ahead of OWNER 0 not READY", ZERO_UNREADY);
        beyondOfBestPaper(KINDS, ", ahead of OWNER 1 not READY", ONE_UNREADY);
        refusedBestPapers();
        bestPaper();
        knowing();
        knowingOfThree();
        beyondOfEdge("", READY);
        beyondOfEdge(", ahead of OWNER 0 not READY", ZERO_UNREADY);
        beyondOfEdge(", ahead of OWNER 1 not READY", ONE_UNREADY);
        refusedEdges();
        edge();
        edgeOfTheLastSigns();
        edgeOfEachSign();
        beyondOfPieces("", NEW);
        beyondOfPieces(", ahead of no room", FULL);
        pieces();
        refusedCuts();
        cut();
        beyondOfLots(SEALED, "", READY);
        beyondOfLots(NOTHING, ", ahead of nothing", READY);
        beyondOfLots(BIDS, ", ahead of a ROW", READY);
        beyondOfLots(SEALED, ", ahead of OWNER 0 not READY", ZERO_UNREADY);
        beyondOfLots(SEALED, ", ahead of OWNER 1 not READY", ONE_UNREADY);
        refusedLots();
        lots();
        lotsOfCoins();
        lotsAtTheEnds();
        C.end();
    }
}
