/** Promises 14 to 18: has, pays, meanBid, rest, rests. */
public final class BidsTest {
    private static final Checks C = new Checks();
    private static final long LONG = 4000000000000000000L;

    /** PARTS 40 and 60, OUTSIDE 10. */
    private static MillPaper small() {
        MillPaper x = new MillPaper();
        x.sign(0, 100, 300, 100);
        x.sign(1, 100, 200, 999);
        x.set(0, 40);
        x.set(1, 10);
        return x;
    }

    private static void deal(String call, MillPaper x, int a, int b, int who, int zero, int one) {
        C.due(call + ": has", x.has(0, 0, 0, a, b), who);
        C.due(call + ": pays 0", x.pays(0, 0, 0, 0, a, b), zero);
        C.due(call + ": pays 1", x.pays(0, 1, 0, 0, a, b), one);
    }

    private static void hasAndPays() {
        MillPaper x = small();
        x.keep(0, 1, 0, 500);
        deal("WAY", x, 100, 50, 2, 400, 600);
        x.keep(0, 1, 1, 500);
        deal("NAME", x, 200, 999, 1, 8000, 12000);
        deal("NAME, neither can", x, 201, 0, 2, 400, 600);
        x.keep(0, 1, 2, 500);
        deal("SEALED", x, 100, 50, 0, 24000, 6000);
        deal("SEALED, like ones", x, 100, 100, 0, 24000, 6000);
        deal("SEALED, OWNER 1", x, 100, 101, 1, 4040, 15960);
        deal("SEALED, just the coin", x, 166, 0, 0, 20040, 9960);
        deal("SEALED, coin is lacking", x, 167, 0, 2, 400, 600);
        x.keep(0, 1, 3, 500);
        deal("RISE", x, 170, 100, 0, 23940, 6060);
        deal("RISE, its own bid at most", x, 100, 100, 0, 24000, 6000);
        deal("RISE, OWNER 1", x, 100, 170, 1, 4040, 15960);
        deal("RISE, coin is lacking", x, 999, 166, 2, 400, 600);
        x.keep(0, 1, 7, 500);
        deal("HALVED, cut", x, 170, 101, 0, 21900, 8100);
        deal("HALVED, OWNER 1", x, 0, 1, 1, 0, 20000);
        x.keep(0, 1, 4, 10);
        deal("OUTSIDE, just the FIGURE", x, 0, 0, 2, 400, 600);
        x.keep(0, 1, 4, 11);
        deal("OUTSIDE, less than the FIGURE", x, 0, 0, 2, 0, 0);
        x.keep(0, 1, 5, 150);
        deal("CUT", x, 999, 999, 1, 6000, 14000);
        x.keep(0, 1, 5, 201);
        deal("CUT, neither can", x, 0, 0, 2, 400, 600);
        x.keep(0, 1, 6, 150);
        deal("THIRD, the greater PART", x, 0, 0, 1, 6000, 14000);
        x.keep(0, 1, 6, 250);
        deal("THIRD, none", x, 0, 0, 2, 400, 600);
        x.set(0, 50);
        x.keep(0, 1, 6, 200);
        deal("THIRD, like PARTS", x, 0, 0, 0, 20000, 10000);
        x.change(0, 0, 2, 99);
        deal("THIRD, one has the coin", x, 0, 0, 1, 10000, 10000);
        x.keep(0, 1, 6, 201);
        deal("THIRD, nobody", x, 0, 0, 2, 500, 500);
    }

    private static void severalSigns() {
        MillPaper x = new MillPaper();
        x.sign(0, 1, 300, 999);
        x.sign(0, 1, 400, 999);
        x.sign(1, 1, 200, 999);
        x.sign(1, 1, 500, 999);
        x.keep(0, 1, 2, 0);
        C.due("pays: OWNER 0 with sign 1", x.pays(0, 0, 1, 0, 100, 50), 35000);
        C.due("pays: OWNER 1 with sign 1", x.pays(0, 1, 0, 1, 50, 100), 45000);
        C.due("pays: OWNER 1 to sign 1", x.pays(0, 1, 1, 0, 100, 50), 5000);
    }

    private static void refusalsOfDeals() {
        MillPaper x = small();
        C.due("has: shelf 8", x.has(8, 0, 0, 0, 0), -1);
        C.due("has: shelf -1", x.has(-1, 0, 0, 0, 0), -1);
        C.due("has: no sign of 0", x.has(0, 1, 0, 0, 0), -1);
        C.due("has: no sign of 1", x.has(0, 0, -1, 0, 0), -1);
        C.due("has: number 1000", x.has(0, 0, 0, 1000, 0), -1);
        C.due("has: number -1", x.has(0, 0, 0, 0, -1), -1);
        C.due("has: nothing", x.has(0, 0, 0, 0, 0), -11);
        C.due("pays: nothing", x.pays(0, 0, 0, 0, 0, 0), -1000000011);
        x.row(0, 0, 3);
        C.due("has: a ROW", x.has(0, 0, 0, 0, 0), -12);
        C.due("pays: a ROW", x.pays(0, 1, 0, 0, 0, 0), -1000000012);
        C.due("pays: owner 2", x.pays(0, 2, 0, 0, 0, 0), -1000000001);
        C.due("pays: shelf 8", x.pays(8, 0, 0, 0, 0, 0), -1000000001);
        C.due("pays: no sign", x.pays(0, 0, 0, 1, 0, 0), -1000000001);
        C.due("pays: number 1000", x.pays(0, 0, 0, 0, 0, 1000), -1000000001);
    }

    /** OWNER 0: 300; OWNER 1: 200 in 60, 500 in 40; SEALED in SHELF 0, shorts in SHELF 1. */
    private static MillPaper bidders() {
        MillPaper x = new MillPaper();
        x.sign(0, 100, 300, 999);
        x.sign(1, 60, 200, 999);
        x.sign(1, 40, 500, 999);
        x.keep(0, 1, 2, 0);
        x.row(1, 1, 3);
        return x;
    }

    private static void bid(MillPaper x, int a, int b, int c) {
        x.put(1, 0, a);
        x.put(1, 1, b);
        x.put(1, 2, c);
    }

    private static void meanBid() {
        MillPaper x = bidders();
        bid(x, 200, 100, 250);
        C.due("meanBid: 0 by SEALED", x.meanBid(0, 1, 0, 0), 60 * 20000 + 40 * 12500);
        C.due("meanBid: 1, sign 0 by SEALED", x.meanBid(0, 1, 1, 0), 100 * 10000);
        C.due("meanBid: 1, sign 1 by SEALED", x.meanBid(0, 1, 1, 1), 100 * 37500);
        x.keep(0, 1, 3, 0);
        C.due("meanBid: 0 by RISE", x.meanBid(0, 1, 0, 0), 60 * 24950 + 40 * 10050);
        x.keep(0, 1, 7, 0);
        C.due("meanBid: 0 by HALVED", x.meanBid(0, 1, 0, 0), 60 * 22500 + 40 * 11250);
        C.due("meanBid: shelf 8", x.meanBid(8, 1, 0, 0), -1 - LONG);
        C.due("meanBid: shelf -1", x.meanBid(0, -1, 0, 0), -1 - LONG);
        C.due("meanBid: no sign", x.meanBid(0, 1, 0, 1), -1 - LONG);
        C.due("meanBid: owner 2", x.meanBid(0, 1, 2, 0), -1 - LONG);
        MillPaper y = new MillPaper();
        y.sign(0, 100, 300, 999);
        C.due("meanBid: not READY, ahead of nothing", y.meanBid(0, 1, 0, 0), -3 - LONG);
        C.due("meanBid: no sign, ahead of not READY", y.meanBid(0, 1, 1, 0), -1 - LONG);
    }

    private static void refusalsOfBids() {
        MillPaper x = bidders();
        C.due("rest: nothing in e", x.rest(0, 2, 50), -11);
        C.due("rest: nothing in d", x.rest(2, 1, 50), -11);
        C.due("rest: nothing, ahead of another kind", x.rest(1, 2, 50), -11);
        C.due("rest: a ROW in d", x.rest(1, 1, 50), -12);
        C.due("rest: a PAPER in e", x.rest(0, 0, 50), -12);
        x.row(3, 0, 2);
        C.due("rest: not one for each", x.rest(0, 3, 50), -13);
        x.row(3, 0, 4);
        C.due("rest: more than one for each", x.rest(0, 3, 50), -13);
        x.row(3, 0, 3);
        // For 999 OWNER 1's sign 1 has 50 hundredths left, for 0 OWNER 0 has it.
        C.due("rest: bytes will do", x.rest(0, 3, 999), 11);
        x.put(3, 2, -1);
        C.due("rest: a bid below 0", x.rest(0, 3, 999), -13);
        C.due("meanBid: a bid below 0", x.meanBid(0, 3, 0, 0), -13 - LONG);
        x.row(3, 2, 3);
        x.put(3, 0, 1000);
        C.due("rest: a bid above 999", x.rest(0, 3, 999), -13);
        int[] others = {0, 1, 4, 5, 6};
        for (int kind : others) {
            x.keep(0, 1, kind, 0);
            C.due("rest: a PAPER without bids", x.rest(0, 3, 50), -12);
            C.due("meanBid: a PAPER without bids", x.meanBid(0, 3, 0, 0), -12 - LONG);
            C.due("rests: a PAPER without bids", x.rests(0, 250, -1), -12);
        }
        C.due("rest: shelf 8", x.rest(8, 1, 50), -1);
        C.due("rest: shelf -1", x.rest(0, -1, 50), -1);
        C.due("rest: STEPS 49", x.rest(0, 1, 49), -1);
        C.due("rest: STEPS 1000", x.rest(0, 1, 1000), -1);
        MillPaper y = new MillPaper();
        C.due("rest: not READY, ahead of nothing", y.rest(0, 1, 50), -3);
        C.due("rest: out of range, ahead of not READY", y.rest(0, 1, 0), -1);
    }

    private static void rest() {
        MillPaper x = bidders();
        bid(x, 250, 250, 500);
        C.due("rest: AT REST", x.rest(0, 1, 250), -4);
        C.due("rest: by other STEPS, too", x.rest(0, 1, 999), -4);
        bid(x, 0, 250, 500);
        C.due("rest: OWNER 0 would rather", x.rest(0, 1, 250), 0);
        bid(x, 250, 500, 500);
        C.due("rest: OWNER 1's sign 0 would rather", x.rest(0, 1, 250), 10);
        bid(x, 250, 250, 250);
        C.due("rest: OWNER 1's sign 1 would rather", x.rest(0, 1, 250), 11);
        bid(x, 0, 0, 0);
        C.due("rest: OWNER 0 has it for nothing, OWNER 1 would rather", x.rest(0, 1, 50), 10);
    }

    private static void rests() {
        MillPaper x = bidders();
        C.due("rests: how many", x.rests(0, 250, -1), 1);
        C.due("rests: element 0", x.rests(0, 250, 0), 250);
        C.due("rests: element 1", x.rests(0, 250, 1), 250);
        C.due("rests: element 2", x.rests(0, 250, 2), 500);
        C.due("rests: no element 3", x.rests(0, 250, 3), -4);
        C.due("rests: what -2", x.rests(0, 250, -2), -1);
        C.due("rests: shelf 8", x.rests(8, 250, -1), -1);
        C.due("rests: STEPS 49", x.rests(0, 49, -1), -1);
        C.due("rests: STEPS 1000", x.rests(0, 1000, -1), -1);
        C.due("rests: nothing", x.rests(5, 250, -1), -11);
        C.due("rests: a ROW", x.rests(1, 250, -1), -12);
        C.due("rests: six STEPS", x.rests(0, 199, -1), -3);
        C.due("rests: five STEPS", x.rests(0, 200, -1) >= 0 ? 1 : 0, 1);
        MillPaper y = new MillPaper();
        C.due("rests: nothing, ahead of not READY", y.rests(0, 250, -1), -11);
        y.keep(0, 1, 2, 0);
        C.due("rests: not READY", y.rests(0, 250, -1), -3);
        y.sign(0, 50, 300, 999);
        y.sign(0, 50, 300, 999);
        y.sign(1, 99, 300, 999);
        y.sign(1, 1, 300, 999);
        C.due("rests: four SIGNS", y.rests(0, 500, -1) >= 0 ? 1 : 0, 1);
        MillPaper z = new MillPaper();
        z.keep(0, 1, 2, 0);
        z.sign(0, 100, 300, 999);
        for (int s = 0; s < 4; s++) {
            z.sign(1, 25, 300, 999);
        }
        C.due("rests: five SIGNS", z.rests(0, 500, -1), -3);
        z.keep(0, 1, 1, 0);
        C.due("rests: another kind, ahead of five SIGNS", z.rests(0, 500, -1), -12);
    }

    /** OWNER 1 has no coin: OWNER 0 bids just as much, and OWNER 1 can't gain by more. */
    private static void severalAtRest() {
        MillPaper x = new MillPaper();
        x.sign(0, 100, 900, 999);
        x.sign(1, 100, 900, 0);
        x.keep(0, 1, 2, 0);
        C.due("rests: like bids", x.rests(0, 250, -1), 4);
        C.due("rests: the first, element 0", x.rests(0, 250, 0), 0);
        C.due("rests: the first, element 1", x.rests(0, 250, 1), 0);
        C.due("rests: STEPS up to 999 itself", x.rests(0, 333, -1), 4);
        C.due("rests: 0 and 999", x.rests(0, 999, -1), 2);
    }

    /** As above, for two SIGNS of each: OWNER 0 bids as much as the one of OWNER 1 that bids more, up to the last row of all. */
    private static void upToTheLastRow() {
        MillPaper x = new MillPaper();
        for (int s = 0; s < 2; s++) {
            x.sign(0, 50, 900, 999);
            x.sign(1, 50, 900, 0);
        }
        x.keep(0, 1, 2, 0);
        C.due("rests: four SIGNS, five STEPS", x.rests(0, 200, -1), 25);
        x.row(1, 1, 4);
        for (int k = 0; k < 4; k++) {
            x.put(1, k, 800);
        }
        C.due("rest: the last row", x.rest(0, 1, 200), -4);
    }

    /** What one has more the other has less, and each bid for the one is answered by another for the other. */
    private static void noneAtRest() {
        MillPaper x = new MillPaper();
        x.sign(0, 100, 500, 500);
        x.sign(1, 100, 500, 500);
        x.set(0, 30);
        x.set(1, 500);
        x.keep(0, 1, 7, 0);
        C.due("rests: no row", x.rests(0, 300, -1), 0);
        C.due("rests: no first row", x.rests(0, 300, 0), -4);
        C.due("rests: no first row, no such element", x.rests(0, 300, 2), -4);
    }

    public static void main(String[] args) {
        hasAndPays();
        severalSigns();
        refusalsOfDeals();
        meanBid();
        refusalsOfBids();
        rest();
        rests();
        severalAtRest();
        upToTheLastRow();
        noneAtRest();
        C.end();
    }
}
