/** Promises 14 to 18, at the edges that their sentences name: each refusal alone, which comes first, and that nothing changes. */
public final class BidsEdgesTest {
    private static final Checks C = new Checks();
    private static final Unchanged NEW = new Unchanged(C, MillPaper::new);
    private static final Unchanged READY = new Unchanged(C, States::ready);
    private static final Unchanged FULL = new Unchanged(C, States::full);
    private static final Unchanged ZERO_UNREADY = new Unchanged(C, States::zeroUnready);
    private static final Unchanged ONE_UNREADY = new Unchanged(C, States::oneUnready);
    private static final int[] KINDS_WITHOUT_BIDS = {0, 1, 4, 5, 6};
    private static final int[] KINDS_OF_BIDS = {2, 3, 7};
    private static final int INT = 1000000000;
    private static final long LONG = 4000000000000000000L;
    private static final int SEALED = States.SEALED;
    private static final int BIDS = States.BIDS;
    private static final int NOTHING = States.NOTHING;

    // ---- promises 14 and 15: has and pays

    /** Out of range where a PAPER, a ROW or nothing is held: it comes ahead of all. */
    private static void refusedDeals(int d) {
        String where = " in SHELF " + d;
        for (int sign : Beyond.THREE_SIGNS) {
            READY.due("has: sign i " + sign + where, x -> x.has(d, sign, 0, 0, 0), -1);
            READY.due("has: sign j " + sign + where, x -> x.has(d, 0, sign, 0, 0), -1);
            READY.due("pays: sign i " + sign + where, x -> x.pays(d, 1, sign, 0, 0, 0), -1 - INT);
            READY.due("pays: sign j " + sign + where, x -> x.pays(d, 0, 0, sign, 0, 0), -1 - INT);
        }
        for (int number : Beyond.NUMBERS) {
            READY.due("has: number x " + number + where, x -> x.has(d, 0, 0, number, 0), -1);
            READY.due("has: number y " + number + where, x -> x.has(d, 0, 0, 0, number), -1);
            READY.due("pays: number x " + number + where, x -> x.pays(d, 0, 0, 0, number, 0), -1 - INT);
            READY.due("pays: number y " + number + where, x -> x.pays(d, 0, 0, 0, 0, number), -1 - INT);
        }
        for (int owner : Beyond.OWNERS) {
            READY.due("pays: owner " + owner + where, x -> x.pays(d, owner, 0, 0, 0, 0), -1 - INT);
        }
        NEW.due("has: no SIGNS" + where, x -> x.has(d, 0, 0, 0, 0), -1);
        NEW.due("pays: no SIGNS" + where, x -> x.pays(d, 0, 0, 0, 0, 0), -1 - INT);
    }

    private static void shelvesOfDeals() {
        for (int d : Beyond.SHELVES) {
            READY.due("has: SHELF " + d, x -> x.has(d, 0, 0, 0, 0), -1);
            READY.due("pays: SHELF " + d, x -> x.pays(d, 0, 0, 0, 0, 0), -1 - INT);
        }
        READY.due("has: nothing is held", x -> x.has(NOTHING, 0, 0, 0, 0), -11);
        READY.due("pays: nothing is held", x -> x.pays(NOTHING, 1, 0, 0, 0, 0), -11 - INT);
        READY.due("has: a ROW", x -> x.has(BIDS, 0, 0, 0, 0), -12);
        READY.due("pays: a ROW", x -> x.pays(BIDS, 1, 0, 0, 0, 0), -12 - INT);
        MillPaper x = States.ready();
        x.keep(7, 1, 2, 0);
        C.due("has: the last SHELF", x.has(7, 0, 0, 1, 0), 0);
        C.due("pays: the last SHELF", x.pays(7, 1, 0, 0, 1, 0), 60);
    }

    private static void dealsWithoutReady() {
        ZERO_UNREADY.due("has: OWNER 0 needn't be READY", x -> x.has(SEALED, 0, 0, 10, 0), 0);
        ONE_UNREADY.due("has: OWNER 1 needn't be READY", x -> x.has(SEALED, 0, 0, 0, 10), 1);
        ZERO_UNREADY.due("pays: OWNER 0 needn't be READY", x -> x.pays(SEALED, 1, 0, 0, 10, 0), 600);
        ONE_UNREADY.due("pays: OWNER 1 needn't be READY", x -> x.pays(SEALED, 0, 0, 0, 0, 10), 400);
    }

    private static void signsOfJustOne() {
        MillPaper x = new MillPaper();
        x.sign(0, 1, 10, 999);
        x.sign(0, 1, 20, 999);
        x.sign(1, 1, 30, 999);
        x.keep(0, 1, 2, 0);
        MillPaper y = new MillPaper();
        y.sign(0, 1, 10, 999);
        y.sign(1, 1, 20, 999);
        y.sign(1, 1, 30, 999);
        y.keep(0, 1, 2, 0);
        C.due("has: OWNER 0 has a second SIGN", x.has(0, 1, 0, 0, 0), 0);
        C.due("has: OWNER 1 hasn't", x.has(0, 0, 1, 0, 0), -1);
        C.due("has: OWNER 1 has a second SIGN", y.has(0, 0, 1, 0, 0), 0);
        C.due("has: OWNER 0 hasn't", y.has(0, 1, 0, 0, 0), -1);
        C.due("pays: OWNER 0's second SIGN", x.pays(0, 0, 1, 0, 0, 0), 2000);
        C.due("pays: OWNER 1 hasn't", x.pays(0, 0, 0, 1, 0, 0), -1 - INT);
        C.due("pays: OWNER 1's second SIGN", y.pays(0, 1, 0, 1, 0, 1), 2950);
        C.due("pays: OWNER 0 hasn't", y.pays(0, 0, 1, 0, 0, 0), -1 - INT);
    }

    private static void deal(String call, MillPaper x, int kind, int figure, int a, int b, int who, int zero, int one) {
        x.keep(0, 1, kind, figure);
        C.due(call + ": has", x.has(0, 0, 0, a, b), who);
        C.due(call + ": pays OWNER 0", x.pays(0, 0, 0, 0, a, b), zero);
        C.due(call + ": pays OWNER 1", x.pays(0, 1, 0, 0, a, b), one);
    }

    private static MillPaper half(int worth0, int coin0, int worth1, int coin1) {
        MillPaper x = States.oneOfEach(worth0, coin0, worth1, coin1);
        x.set(1, 100);
        return x;
    }

    private static void bidsToTheEnds() {
        MillPaper x = half(999, 999, 999, 999);
        for (int kind : KINDS_OF_BIDS) {
            String call = "KIND " + kind;
            deal(call + ", 0 and 0", x, kind, 0, 0, 0, 0, 99900, 0);
            deal(call + ", 999 and 999", x, kind, 999, 999, 999, 0, 49950, 49950);
        }
        deal("SEALED, 999 and 0", x, 2, 0, 999, 0, 0, 49950, 49950);
        deal("SEALED, 0 and 999", x, 2, 0, 0, 999, 1, 49950, 49950);
        deal("RISE, 999 and 0", x, 3, 0, 999, 0, 0, 99850, 50);
        deal("RISE, 0 and 999", x, 3, 0, 0, 999, 1, 50, 99850);
        deal("RISE, 999 and 998", x, 3, 0, 999, 998, 0, 49950, 49950);
        deal("RISE, 997 and 999", x, 3, 0, 997, 999, 1, 49900, 50000);
        deal("HALVED, 999 and 0", x, 7, 0, 999, 0, 0, 99900 - 24950, 24950);
        deal("HALVED, 998 and 999", x, 7, 0, 998, 999, 1, 49900, 50000);
        deal("HALVED, 0 and 1", x, 7, 0, 0, 1, 1, 0, 99900);
    }

    private static void oneMoreBids() {
        MillPaper x = half(300, 999, 400, 999);
        deal("SEALED, like ones", x, 2, 0, 100, 100, 0, 25000, 5000);
        deal("SEALED, OWNER 1 one more", x, 2, 0, 100, 101, 1, 5050, 34950);
        deal("SEALED, OWNER 0 one more", x, 2, 0, 101, 100, 0, 24950, 5050);
        deal("RISE, like ones: its own bid at most", x, 3, 0, 100, 100, 0, 25000, 5000);
        deal("RISE, OWNER 1 one more", x, 3, 0, 100, 101, 1, 5050, 34950);
        deal("RISE, OWNER 1 two more", x, 3, 0, 100, 102, 1, 5050, 34950);
        deal("RISE, OWNER 0 two more", x, 3, 0, 102, 100, 0, 24950, 5050);
        deal("HALVED, like ones", x, 7, 0, 100, 100, 0, 25000, 5000);
        deal("HALVED, one more is cut", x, 7, 0, 100, 101, 1, 5000, 35000);
        deal("HALVED, two more", x, 7, 0, 102, 100, 0, 24950, 5050);
    }

    /** With half of the mill a COIN pays for 2 of a price. */
    private static void coinOfBidders() {
        MillPaper x = half(300, 50, 400, 60);
        deal("SEALED, just OWNER 0's COIN", x, 2, 0, 100, 0, 0, 25000, 5000);
        deal("SEALED, OWNER 0's COIN is lacking", x, 2, 0, 101, 0, 2, 5000, 5000);
        deal("SEALED, the lower bid doesn't come in its place", x, 2, 0, 101, 100, 2, 5000, 5000);
        deal("SEALED, just OWNER 1's COIN", x, 2, 0, 0, 120, 1, 6000, 34000);
        deal("SEALED, OWNER 1's COIN is lacking", x, 2, 0, 0, 121, 2, 5000, 5000);
        deal("RISE, just OWNER 0's COIN for 99 and 1", x, 3, 0, 999, 99, 0, 25000, 5000);
        deal("RISE, OWNER 0's COIN is lacking for 101", x, 3, 0, 999, 100, 2, 5000, 5000);
        deal("RISE, just OWNER 1's COIN", x, 3, 0, 119, 999, 1, 6000, 34000);
        deal("RISE, OWNER 1's COIN is lacking", x, 3, 0, 120, 999, 2, 5000, 5000);
        deal("HALVED, just OWNER 0's COIN, cut", x, 7, 0, 101, 100, 0, 25000, 5000);
        deal("HALVED, OWNER 0's COIN is lacking", x, 7, 0, 101, 101, 2, 5000, 5000);
        deal("HALVED, just OWNER 1's COIN", x, 7, 0, 0, 241, 1, 6000, 34000);
        deal("HALVED, OWNER 1's COIN is lacking", x, 7, 0, 0, 242, 2, 5000, 5000);
        deal("SEALED, what it is worth doesn't matter", half(0, 999, 0, 999), 2, 0, 999, 0, 0, -49950, 49950);
    }

    /** OWNER 0 pays 80 hundredths of a price, OWNER 1 20. */
    private static void coinByParts() {
        MillPaper x = half(300, 80, 400, 20);
        x.set(0, 20);
        for (int kind : KINDS_OF_BIDS) {
            String call = "KIND " + kind + " by PARTS";
            deal(call + ", just OWNER 0's COIN", x, kind, 0, 100, 100, 0, 22000, 8000);
            deal(call + ", OWNER 0's COIN is lacking", x, kind, 0, 101, 101, 2, 2000, 8000);
        }
        deal("SEALED by PARTS, just OWNER 1's COIN", x, 2, 0, 99, 100, 1, 2000, 38000);
        deal("SEALED by PARTS, OWNER 1's COIN is lacking", x, 2, 0, 100, 101, 2, 2000, 8000);
        deal("RISE by PARTS, just OWNER 1's COIN", x, 3, 0, 99, 999, 1, 2000, 38000);
        deal("RISE by PARTS, OWNER 1's COIN is lacking", x, 3, 0, 100, 999, 2, 2000, 8000);
        deal("HALVED by PARTS, just OWNER 1's COIN", x, 7, 0, 100, 101, 1, 2000, 38000);
        deal("HALVED by PARTS, OWNER 1's COIN is lacking", x, 7, 0, 100, 102, 2, 2000, 8000);
        deal("THIRD by PARTS, just OWNER 1's COIN", x, 6, 100, 0, 0, 1, 2000, 38000);
        deal("THIRD by PARTS, both COINS are lacking", x, 6, 101, 0, 0, 2, 2000, 8000);
        x.change(1, 0, 2, 19);
        deal("THIRD by PARTS, just OWNER 0's COIN", x, 6, 100, 0, 0, 0, 22000, 8000);
        deal("CUT by PARTS, OWNER 1's COIN is lacking", x, 5, 100, 0, 0, 0, 22000, 8000);
    }

    /** At 100 each OWNER's SIGN 0 has the COIN, its SIGN 1 hasn't: who has it with 0 0, 0 1, 1 0, 1 1. */
    private static void coinOfEachSign(int kind, int a, int b, int... who) {
        MillPaper x = States.coins();
        x.keep(0, 1, kind, 100);
        for (int i = 0; i < 2; i++) {
            for (int j = 0; j < 2; j++) {
                String call = "KIND " + kind + ", SIGNS " + i + " and " + j;
                int due = who[2 * i + j];
                int worth0 = i == 0 ? 30000 : 10000;
                int worth1 = j == 0 ? 40000 : 20000;
                C.due("has: " + call, x.has(0, i, j, a, b), due);
                C.due("pays: OWNER 0, " + call, x.pays(0, 0, i, j, a, b), due == 0 ? worth0 - 5000 : due == 1 ? 5000 : 0);
                C.due("pays: OWNER 1, " + call, x.pays(0, 1, i, j, a, b), due == 1 ? worth1 - 5000 : due == 0 ? 5000 : 0);
            }
        }
    }

    private static void coinsOfSigns() {
        coinOfEachSign(1, 100, 999, 1, 0, 1, 2);
        coinOfEachSign(5, 999, 999, 1, 0, 1, 2);
        coinOfEachSign(6, 0, 0, 0, 0, 1, 2);
        coinOfEachSign(2, 100, 99, 0, 0, 2, 2);
        coinOfEachSign(2, 99, 100, 1, 2, 1, 2);
        coinOfEachSign(3, 999, 99, 0, 0, 2, 2);
        coinOfEachSign(3, 99, 999, 1, 2, 1, 2);
        coinOfEachSign(7, 101, 99, 0, 0, 2, 2);
        coinOfEachSign(7, 99, 101, 1, 2, 1, 2);
    }

    private static void wayAndOutside() {
        MillPaper x = half(300, 999, 400, 999);
        deal("WAY, whatever is bid", x, 0, 999, 999, 0, 2, 5000, 5000);
        deal("OUTSIDE, FIGURE 0", x, 4, 0, 0, 999, 2, 5000, 5000);
        deal("OUTSIDE, FIGURE is what strangers give", x, 4, 100, 999, 0, 2, 5000, 5000);
        deal("OUTSIDE, FIGURE is one more", x, 4, 101, 0, 0, 2, 0, 0);
        deal("OUTSIDE, FIGURE 999", x, 4, 999, 0, 0, 2, 0, 0);
        x.set(1, 999);
        deal("OUTSIDE, strangers give 999", x, 4, 999, 0, 0, 2, 49950, 49950);
        x.set(1, 0);
        deal("OUTSIDE, strangers give 0", x, 4, 0, 0, 0, 2, 0, 0);
    }

    private static void nameAndCut() {
        MillPaper x = half(300, 50, 400, 60);
        deal("NAME, just OWNER 1's COIN", x, 1, 999, 120, 0, 1, 6000, 34000);
        deal("NAME, neither has the COIN", x, 1, 0, 121, 999, 2, 5000, 5000);
        deal("CUT, just OWNER 1's COIN", x, 5, 120, 0, 999, 1, 6000, 34000);
        deal("CUT, neither has the COIN", x, 5, 121, 0, 0, 2, 5000, 5000);
        x.change(1, 0, 1, 99);
        deal("NAME, OWNER 0 must", x, 1, 999, 100, 0, 0, 25000, 5000);
        deal("NAME, WORTH the number", x, 1, 999, 99, 0, 1, 4950, 4950);
        deal("CUT, OWNER 0 must", x, 5, 100, 0, 0, 0, 25000, 5000);
        deal("CUT, WORTH the FIGURE", x, 5, 99, 999, 999, 1, 4950, 4950);
        deal("CUT, FIGURE 0", x, 5, 0, 999, 999, 1, 0, 9900);
        deal("CUT, FIGURE 999", x, 5, 999, 0, 0, 2, 5000, 5000);
    }

    private static void thirds() {
        MillPaper x = half(300, 150, 300, 150);
        deal("THIRD, like PARTS, WORTH just so much, COIN too", x, 6, 300, 0, 0, 0, 15000, 15000);
        deal("THIRD, WORTH less to both", x, 6, 301, 0, 999, 2, 5000, 5000);
        x.change(0, 0, 1, 299);
        deal("THIRD, WORTH less to OWNER 0", x, 6, 300, 0, 0, 1, 15000, 15000);
        x.change(0, 0, 1, 300);
        x.change(0, 0, 2, 149);
        deal("THIRD, OWNER 0's COIN is lacking", x, 6, 300, 0, 0, 1, 15000, 15000);
        x.change(1, 0, 2, 149);
        deal("THIRD, both COINS are lacking", x, 6, 300, 0, 0, 2, 5000, 5000);
        x.change(0, 0, 2, 150);
        deal("THIRD, just OWNER 1's COIN is lacking", x, 6, 300, 0, 0, 0, 15000, 15000);
        MillPaper y = half(300, 999, 300, 999);
        y.set(0, 49);
        deal("THIRD, OWNER 1 has a little more", y, 6, 100, 0, 0, 1, 4900, 30000 - 4900);
        y.set(0, 51);
        deal("THIRD, OWNER 0 has a little more", y, 6, 100, 0, 0, 0, 30000 - 4900, 4900);
        deal("THIRD, FIGURE 0", y, 6, 0, 0, 0, 0, 30000, 0);
        deal("THIRD, FIGURE 999", y, 6, 999, 0, 0, 2, 5100, 4900);
        y.change(1, 0, 1, 999);
        deal("THIRD, FIGURE 999 is WORTH to OWNER 1", y, 6, 999, 0, 0, 1, 50949, 99900 - 50949);
    }

    // ---- promises 16 and 17: meanBid and rest

    private static void beyondOfBids(String where, Unchanged state) {
        for (int d : Beyond.SHELVES) {
            state.due("meanBid: SHELF d " + d + where, x -> x.meanBid(d, BIDS, 0, 0), -1 - LONG);
            state.due("meanBid: SHELF e " + d + where, x -> x.meanBid(SEALED, d, 0, 0), -1 - LONG);
            state.due("rest: SHELF d " + d + where, x -> x.rest(d, BIDS, 50), -1);
            state.due("rest: SHELF e " + d + where, x -> x.rest(SEALED, d, 50), -1);
        }
        for (int owner : Beyond.OWNERS) {
            state.due("meanBid: owner " + owner + where, x -> x.meanBid(SEALED, BIDS, owner, 0), -1 - LONG);
        }
        for (int sign : Beyond.THREE_SIGNS) {
            state.due("meanBid: sign " + sign + where, x -> x.meanBid(SEALED, BIDS, 0, sign), -1 - LONG);
            state.due("meanBid: OWNER 1's sign " + sign + where, x -> x.meanBid(SEALED, BIDS, 1, sign), -1 - LONG);
        }
        for (int n : Beyond.STEPS) {
            state.due("rest: STEPS of " + n + where, x -> x.rest(SEALED, BIDS, n), -1);
        }
    }

    private static void refusedBids(String why, Unchanged state, int d, int e, int refusal) {
        state.due("rest: " + why, x -> x.rest(d, e, 50), refusal);
        state.due("meanBid: " + why, x -> x.meanBid(d, e, 0, 0), refusal - LONG);
        state.due("meanBid: " + why + ", OWNER 1", x -> x.meanBid(d, e, 1, 2), refusal - LONG);
    }

    private static void refusalsOfBidsInOrder() {
        READY.due("rest: out of range, ahead of nothing", x -> x.rest(NOTHING, NOTHING, 49), -1);
        READY.due("meanBid: out of range, ahead of nothing", x -> x.meanBid(NOTHING, NOTHING, 0, 3), -1 - LONG);
        refusedBids("OWNER 0 isn't READY", ZERO_UNREADY, SEALED, BIDS, -3);
        refusedBids("OWNER 1 isn't READY", ONE_UNREADY, SEALED, BIDS, -3);
        refusedBids("OWNER 0 isn't READY, ahead of nothing", ZERO_UNREADY, NOTHING, NOTHING, -3);
        refusedBids("OWNER 1 isn't READY, ahead of another KIND", ONE_UNREADY, BIDS, SEALED, -3);
        refusedBids("OWNER 1 isn't READY, ahead of too few bids", ONE_UNREADY, SEALED, States.KINDS, -3);
        refusedBids("nothing in d", READY, NOTHING, BIDS, -11);
        refusedBids("nothing in e", READY, SEALED, NOTHING, -11);
        refusedBids("nothing in both", READY, NOTHING, NOTHING, -11);
        refusedBids("nothing in d, ahead of a PAPER in e", READY, NOTHING, SEALED, -11);
        refusedBids("nothing in e, ahead of a ROW in d", READY, BIDS, NOTHING, -11);
        refusedBids("nothing in e, ahead of a PAPER without bids", READY, States.THIRD, NOTHING, -11);
        refusedBids("nothing in d, ahead of too few bids", READY, NOTHING, States.KINDS, -11);
        refusedBids("a ROW in d", READY, BIDS, BIDS, -12);
        refusedBids("a PAPER in e", READY, SEALED, SEALED, -12);
        refusedBids("a PAPER in e, and no bids in d", READY, States.THIRD, SEALED, -12);
        refusedBids("a PAPER without bids, ahead of too few bids", READY, States.THIRD, States.KINDS, -12);
        refusedBids("a ROW in d, ahead of no bids in e", READY, BIDS, States.INTS, -12);
        refusedBids("not one for each", READY, SEALED, States.KINDS, -13);
        NEW.due("rest: no SIGNS, ahead of nothing", x -> x.rest(0, 0, 50), -3);
        for (int kind : KINDS_WITHOUT_BIDS) {
            refusedBids("KIND " + kind, new Unchanged(C, () -> withPaper(kind)), SEALED, BIDS, -12);
        }
    }

    private static MillPaper withPaper(int kind) {
        MillPaper x = States.ready();
        x.keep(SEALED, 1, kind, 5);
        return x;
    }

    private static MillPaper withBids(int sort, int... bids) {
        MillPaper x = States.ready();
        States.putRow(x, BIDS, sort, bids);
        return x;
    }

    private static void noRowOfBids(String why, int sort, int... bids) {
        refusedBids(why, new Unchanged(C, () -> withBids(sort, bids)), SEALED, BIDS, -13);
    }

    private static void noBids() {
        noRowOfBids("no elements", 1);
        noRowOfBids("one too few", 1, 1, 2, 3, 4, 5);
        noRowOfBids("one too many", 1, 1, 2, 3, 4, 5, 6, 7);
        noRowOfBids("three for each of one OWNER", 1, 1, 2, 3);
        noRowOfBids("100 elements", 0, new int[100]);
        for (int k = 0; k < 6; k++) {
            int[] bids = new int[6];
            bids[k] = -1;
            noRowOfBids("element " + k + " is below 0, a byte", 0, bids);
            noRowOfBids("element " + k + " is below 0, a short", 1, bids);
            noRowOfBids("element " + k + " is below 0, an int", 2, bids);
            bids[k] = 1000;
            noRowOfBids("element " + k + " is above 999, a short", 1, bids);
            noRowOfBids("element " + k + " is above 999, an int", 2, bids);
        }
        noRowOfBids("128 is -128 as a byte", 0, 128, 0, 0, 0, 0, 0);
        noRowOfBids("32768 is below 0 as a short", 1, 0, 0, 0, 0, 0, 32768);
        noRowOfBids("the greatest int", 2, 0, 0, Integer.MAX_VALUE, 0, 0, 0);
        noRowOfBids("the least int", 2, Integer.MIN_VALUE, 0, 0, 0, 0, 0);
    }

    private static void meanBid() {
        // 100 buys at 100 from 50; 250 and 300 buy from it: 9000, 10000, 12000.
        READY.due("meanBid: OWNER 0's first", x -> x.meanBid(SEALED, BIDS, 0, 0), 10 * 9000 + 40 * 10000 + 50 * 12000);
        READY.due("meanBid: OWNER 1's last", x -> x.meanBid(SEALED, BIDS, 1, 2), 100 * 13000);
        // To 999 of COIN 999 it is sold, at 0 of both it buys, to 999 without COIN it goes OUTSIDE.
        long ends = 10 * 39960 + 40 * 15000 + 50 * 4800;
        for (int sort = 1; sort <= 2; sort++) {
            MillPaper x = withBids(sort, 0, 999, 0, 999, 0, 999);
            C.due("meanBid: bids of 0 and 999, SORT " + sort, x.meanBid(SEALED, BIDS, 0, 0), ends);
        }
        MillPaper bytes = withBids(0, 100, 0, 127, 50, 127, 127);
        C.due("meanBid: bytes up to 127", bytes.meanBid(SEALED, BIDS, 0, 0), 10 * 9000 + 90 * 127 * 40);
        MillPaper cut = withBids(1, 65536 + 100, 0, 0, 65536 + 50, 131072 + 250, 300);
        C.due("meanBid: the lowest bits", cut.meanBid(SEALED, BIDS, 0, 0), 10 * 9000 + 40 * 10000 + 50 * 12000);
    }

    /** 100 .. 500 against 150 .. 550, all bid what they are worth. */
    private static void meanBidOfFive() {
        MillPaper x = States.full();
        States.putRow(x, 7, 2, 100, 200, 300, 400, 500, 150, 250, 350, 450, 550);
        C.due("meanBid: the first of ten", x.meanBid(0, 7, 0, 0), 20 * 50 * (150 + 250 + 350 + 450 + 550));
        C.due("meanBid: OWNER 0's last", x.meanBid(0, 7, 0, 4), 20 * 50 * (4 * 500 + 550));
        C.due("meanBid: OWNER 1's first", x.meanBid(0, 7, 1, 0), 20 * 50 * (150 + 200 + 300 + 400 + 500));
        C.due("meanBid: the last of ten", x.meanBid(0, 7, 1, 4), 20 * 50 * 5 * 550);
        States.putRow(x, 7, 2, 100, 200, 300, 400, 500, 150, 250, 350, 450);
        C.due("meanBid: nine for ten", x.meanBid(0, 7, 0, 0), -13 - LONG);
        States.putRow(x, 7, 2, 100, 200, 300, 400, 500, 150, 250, 350, 450, 550, 0);
        C.due("meanBid: eleven for ten", x.meanBid(0, 7, 0, 0), -13 - LONG);
    }

    /** OWNER 0 sells to 998, for 59880; to buy at 998 or 999 leaves it more, at 1000 it would, too. */
    private static void stepsOfRest() {
        MillPaper x = States.oneOfEach(999, 999, 999, 999);
        x.set(0, 60);
        x.keep(0, 1, 2, 0);
        States.putRow(x, 1, 1, 0, 998);
        int[] reached = {999, 333, 111, 499, 998};
        for (int n : reached) {
            C.due("rest: OWNER 0 would rather by STEPS of " + n, x.rest(0, 1, n), 0);
        }
        int[] passed = {500, 997, 250, 334, 50, 51};
        for (int n : passed) {
            C.due("rest: just OWNER 1 would rather by STEPS of " + n, x.rest(0, 1, n), 10);
        }
    }

    /** OWNER 0 sells to 949, for 47450; to buy at 950 leaves it 47500, at 951 47450. */
    private static void leastSteps() {
        MillPaper x = States.oneOfEach(950, 999, 999, 999);
        x.keep(0, 1, 2, 0);
        States.putRow(x, 1, 1, 0, 949);
        C.due("rest: 950 is a STEP of 50", x.rest(0, 1, 50), 0);
        C.due("rest: 950 is no STEP of 51", x.rest(0, 1, 51), 10);
        C.due("rest: 949 and 950 are no STEPS of 52", x.rest(0, 1, 52), 10);
    }

    /** Whatever is bid, it goes to strangers for the same. */
    private static void justAsMuch() {
        MillPaper x = half(0, 0, 0, 0);
        x.keep(0, 1, 2, 0);
        States.putRow(x, 1, 1, 7, 7);
        C.due("rest: other bids leave just as much", x.rest(0, 1, 50), -4);
        C.due("rest: by STEPS of 999", x.rest(0, 1, 999), -4);
        C.due("rest: OWNER 0's last is the first that would rather", lastOfFive(0), 4);
        C.due("rest: OWNER 1's last is the first that would rather", lastOfFive(1), 14);
    }

    /** All SIGNS but the last one of an OWNER are worth nothing, and without COIN: just that one may gain. */
    private static int lastOfFive(int owner) {
        MillPaper x = States.full();
        for (int o = 0; o < 2; o++) {
            for (int s = 0; s < 5; s++) {
                x.change(o, s, 1, 0);
                x.change(o, s, 2, 0);
            }
        }
        x.change(owner, 4, 1, 999);
        x.change(owner, 4, 2, 999);
        States.putRow(x, 1, 2, 1, 1, 1, 1, 1, 1, 1, 1, 1, 1);
        x.put(1, owner == 0 ? 4 : 9, 999);
        return x.rest(0, 1, 100);
    }

    // ---- promise 18: rests

    private static void refusedRests() {
        for (int d : Beyond.SHELVES) {
            READY.due("rests: SHELF " + d, x -> x.rests(d, 250, -1), -1);
        }
        for (int n : Beyond.STEPS) {
            READY.due("rests: STEPS of " + n, x -> x.rests(SEALED, n, -1), -1);
            READY.due("rests: STEPS of " + n + ", ahead of nothing", x -> x.rests(NOTHING, n, -1), -1);
            READY.due("rests: STEPS of " + n + ", ahead of a ROW", x -> x.rests(BIDS, n, -1), -1);
        }
        int[] whats = {Integer.MIN_VALUE, -3, -2};
        for (int what : whats) {
            READY.due("rests: what " + what, x -> x.rests(SEALED, 250, what), -1);
            READY.due("rests: what " + what + ", ahead of nothing", x -> x.rests(NOTHING, 250, what), -1);
            ONE_UNREADY.due("rests: what " + what + ", ahead of not READY", x -> x.rests(SEALED, 250, what), -1);
        }
        READY.due("rests: nothing, ahead of six SIGNS", x -> x.rests(NOTHING, 250, -1), -11);
        READY.due("rests: a ROW, ahead of six SIGNS", x -> x.rests(BIDS, 250, -1), -12);
        READY.due("rests: THIRD, ahead of six SIGNS", x -> x.rests(States.THIRD, 250, -1), -12);
        READY.due("rests: six SIGNS", x -> x.rests(SEALED, 250, -1), -3);
        READY.due("rests: six SIGNS, an element", x -> x.rests(SEALED, 999, 0), -3);
        FULL.due("rests: ten SIGNS", x -> x.rests(0, 999, -1), -3);
        ZERO_UNREADY.due("rests: nothing, ahead of not READY", x -> x.rests(NOTHING, 250, -1), -11);
        ONE_UNREADY.due("rests: THIRD, ahead of not READY", x -> x.rests(States.THIRD, 250, -1), -12);
        NEW.due("rests: nothing, ahead of no SIGNS", x -> x.rests(0, 250, -1), -11);
        for (int kind : KINDS_WITHOUT_BIDS) {
            new Unchanged(C, () -> withPaper(kind)).due("rests: KIND " + kind, x -> x.rests(SEALED, 250, 0), -12);
        }
    }

    /** SIGNS that are worth nothing and have no COIN: all is as good as anything else, so that each row is AT REST. */
    private static MillPaper poor(int ofZero, int lastOfZero, int ofOne, int lastOfOne) {
        MillPaper x = new MillPaper();
        for (int s = 0; s < ofZero; s++) {
            x.sign(0, s == ofZero - 1 ? lastOfZero : 1, 0, 0);
        }
        for (int s = 0; s < ofOne; s++) {
            x.sign(1, s == ofOne - 1 ? lastOfOne : 1, 0, 0);
        }
        x.keep(0, 1, 2, 0);
        return x;
    }

    private static void howManySigns() {
        C.due("rests: 1 and 1", poor(1, 100, 1, 100).rests(0, 250, -1), 16);
        C.due("rests: 1 and 2", poor(1, 100, 2, 99).rests(0, 250, -1), 64);
        C.due("rests: 2 and 2", poor(2, 99, 2, 99).rests(0, 250, -1), 256);
        C.due("rests: 3 and 1", poor(3, 98, 1, 100).rests(0, 250, -1), 256);
        C.due("rests: 1 and 3", poor(1, 100, 3, 98).rests(0, 250, -1), 256);
        C.due("rests: 1 and 4", poor(1, 100, 4, 97).rests(0, 250, -1), -3);
        C.due("rests: 4 and 1", poor(4, 97, 1, 100).rests(0, 250, -1), -3);
        C.due("rests: 2 and 3", poor(2, 99, 3, 98).rests(0, 999, -1), -3);
        C.due("rests: OWNER 0's CHANCES are 99", poor(2, 98, 2, 99).rests(0, 250, -1), -3);
        C.due("rests: OWNER 1's CHANCES are 99", poor(1, 100, 3, 97).rests(0, 250, -1), -3);
        C.due("rests: OWNER 1 has no SIGNS", poor(4, 97, 0, 0).rests(0, 250, -1), -3);
    }

    private static void howManySteps() {
        int[] steps = {50, 199, 200, 249, 250, 333, 334, 499, 500, 998, 999};
        int[] due = {-3, -3, 625, 625, 256, 256, 81, 81, 16, 16, 16};
        for (int k = 0; k < steps.length; k++) {
            C.due("rests: STEPS of " + steps[k], poor(2, 99, 2, 99).rests(0, steps[k], -1), due[k]);
        }
        C.due("rests: six STEPS, of two SIGNS", poor(1, 100, 1, 100).rests(0, 199, -1), -3);
        C.due("rests: five STEPS, of two SIGNS", poor(1, 100, 1, 100).rests(0, 200, -1), 25);
        C.due("rests: six STEPS, an element", poor(1, 100, 1, 100).rests(0, 199, 0), -3);
        C.due("rests: 1 too few", poor(1, 100, 1, 100).rests(0, 49, -1), -1);
    }

    private static void elementsOfTheFirst() {
        MillPaper x = poor(2, 99, 2, 99);
        for (int what = 0; what < 4; what++) {
            C.due("rests: element " + what, x.rests(0, 200, what), 0);
        }
        C.due("rests: element 4 of four", x.rests(0, 200, 4), -4);
        C.due("rests: the greatest element", x.rests(0, 200, Integer.MAX_VALUE), -4);
        C.due("rests: element 2 of two", poor(1, 100, 1, 100).rests(0, 200, 2), -4);
        C.due("rests: element 1 of two", poor(1, 100, 1, 100).rests(0, 200, 1), 0);
    }

    /** Nobody has COIN, so that strangers give 250 if there is a bid: AT REST are 0 500, 500 0, 500 500. */
    private static void firstByElements() {
        MillPaper x = poor(1, 100, 1, 100);
        x.set(1, 250);
        C.due("rests: with a bid at least", x.rests(0, 500, -1), 3);
        C.due("rests: OWNER 0's is the less one", x.rests(0, 500, 0), 0);
        C.due("rests: OWNER 1's is another then", x.rests(0, 500, 1), 500);
        States.putRow(x, 1, 1, 999, 999);
        C.due("rest: a row that isn't of the STEPS", x.rest(0, 1, 500), -4);
        C.due("rests: bids told ahead do not matter", x.rests(0, 500, 0), 0);
        C.due("rests: nor for how many", x.rests(0, 500, -1), 3);
        C.due("rest: none bids", restOf(x, 0, 0), 0);
    }

    private static int restOf(MillPaper x, int a, int b) {
        States.putRow(x, 1, 1, a, b);
        return x.rest(0, 1, 500);
    }

    public static void main(String[] args) {
        refusedDeals(SEALED);
        refusedDeals(BIDS);
        refusedDeals(NOTHING);
        shelvesOfDeals();
        dealsWithoutReady();
        signsOfJustOne();
        bidsToTheEnds();
        oneMoreBids();
        coinOfBidders();
        coinByParts();
        coinsOfSigns();
        wayAndOutside();
        nameAndCut();
        thirds();
        beyondOfBids("", READY);
        beyondOfBids(", ahead of OWNER 0 not READY", ZERO_UNREADY);
        beyondOfBids(", ahead of OWNER 1 not READY", ONE_UNREADY);
        refusalsOfBidsInOrder();
        noBids();
        meanBid();
        meanBidOfFive();
        stepsOfRest();
        leastSteps();
        justAsMuch();
        refusedRests();
        howManySigns();
        howManySteps();
        elementsOfTheFirst();
        firstByElements();
        C.end();
    }
}
