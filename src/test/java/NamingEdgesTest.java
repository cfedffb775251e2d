/** Promises 6 to 13, at the edges that their sentences name: each refusal alone, which comes first, and that nothing changes. */
public final class NamingEdgesTest {
    private static final Checks C = new Checks();
    private static final Unchanged NEW = new Unchanged(C, MillPaper::new);
    private static final Unchanged READY = new Unchanged(C, States::ready);
    private static final Unchanged FULL = new Unchanged(C, States::full);
    private static final Unchanged ZERO_UNREADY = new Unchanged(C, States::zeroUnready);
    private static final Unchanged ONE_UNREADY = new Unchanged(C, States::oneUnready);
    private static final int INT = 1000000000;
    private static final long LONG = 4000000000000000000L;

    private static MillPaper withPart(int part, MillPaper x) {
        x.set(0, part);
        return x;
    }

    // ---- promise 6: named

    private static void refusedNames() {
        for (int namer : Beyond.OWNERS) {
            READY.due("named: namer " + namer, x -> x.named(namer, 0, 0, 5), -1);
        }
        for (int sign : Beyond.THREE_SIGNS) {
            READY.due("named: sign i " + sign, x -> x.named(0, sign, 0, 5), -1);
            READY.due("named: sign j " + sign, x -> x.named(1, 0, sign, 5), -1);
        }
        for (int p : Beyond.NUMBERS) {
            READY.due("named: price " + p, x -> x.named(0, 0, 0, p), -1);
        }
        NEW.due("named: no SIGNS", x -> x.named(0, 0, 0, 0), -1);
        ZERO_UNREADY.due("named: OWNER 0 needn't be READY", x -> x.named(0, 0, 1, 150), 1);
        ONE_UNREADY.due("named: OWNER 1 needn't be READY", x -> x.named(0, 0, 1, 150), 1);
        FULL.due("named: the last of five SIGNS", x -> x.named(0, 4, 4, 550), 1);
    }

    /** i is always a SIGN of OWNER 0, and j of OWNER 1, whoever names. */
    private static void signsOfJustOne() {
        MillPaper x = new MillPaper();
        x.sign(0, 1, 10, 999);
        x.sign(0, 1, 20, 999);
        x.sign(1, 1, 30, 999);
        MillPaper y = new MillPaper();
        y.sign(0, 1, 10, 999);
        y.sign(1, 1, 20, 999);
        y.sign(1, 1, 30, 999);
        for (int namer = 0; namer < 2; namer++) {
            C.due("named: OWNER 0 has a second SIGN", x.named(namer, 1, 0, 5), 1 - namer);
            C.due("named: OWNER 1 hasn't", x.named(namer, 0, 1, 5), -1);
            C.due("named: OWNER 1 has a second SIGN", y.named(namer, 0, 1, 5), 1 - namer);
            C.due("named: OWNER 0 hasn't", y.named(namer, 1, 0, 5), -1);
            C.due("gets: OWNER 1 hasn't", x.gets(0, namer, 0, 1, 5), -1 - INT);
            C.due("gets: OWNER 0 hasn't", y.gets(0, namer, 1, 0, 5), -1 - INT);
        }
    }

    private static void worthJustSoMuch() {
        C.due("named: WORTH P to OWNER 1", States.oneOfEach(0, 999, 500, 999).named(0, 0, 0, 500), 1);
        C.due("named: WORTH one less to OWNER 1", States.oneOfEach(0, 999, 499, 999).named(0, 0, 0, 500), 0);
        C.due("named: WORTH P to OWNER 0", States.oneOfEach(500, 999, 0, 999).named(1, 0, 0, 500), 0);
        C.due("named: WORTH one less to OWNER 0", States.oneOfEach(499, 999, 0, 999).named(1, 0, 0, 500), 1);
        C.due("named: the namer must buy at more than its WORTH", States.oneOfEach(0, 999, 0, 0).named(0, 0, 0, 999), 0);
        C.due("named: 0 is as much as a WORTH of 0", States.oneOfEach(0, 0, 0, 0).named(0, 0, 0, 0), 1);
        C.due("named: 999 is as much as a WORTH of 999", States.oneOfEach(0, 0, 999, 999).named(0, 0, 0, 999), 1);
        C.due("named: the same by OWNER 1", States.oneOfEach(999, 999, 0, 0).named(1, 0, 0, 999), 0);
    }

    /** A buyer pays P times the PART of the other one: 99 for each of P if the other has nearly all. */
    private static void coinJustSoMuch() {
        C.due("named: 989.01 of COIN are needed", withPart(99, States.oneOfEach(0, 0, 999, 990)).named(0, 0, 0, 999), 1);
        C.due("named: 989 are too few", withPart(99, States.oneOfEach(0, 0, 999, 989)).named(0, 0, 0, 999), 2);
        C.due("named: 9.99 are needed", withPart(1, States.oneOfEach(0, 0, 999, 10)).named(0, 0, 0, 999), 1);
        C.due("named: 9 are too few", withPart(1, States.oneOfEach(0, 0, 999, 9)).named(0, 0, 0, 999), 2);
        C.due("named: just all COIN", withPart(50, States.oneOfEach(0, 0, 999, 100)).named(0, 0, 0, 200), 1);
        C.due("named: a half of one is lacking", withPart(50, States.oneOfEach(0, 0, 999, 100)).named(0, 0, 0, 201), 2);
        C.due("named: the namer's COIN just so much", withPart(1, States.oneOfEach(0, 990, 0, 999)).named(0, 0, 0, 999), 0);
        C.due("named: the namer's COIN is lacking", withPart(1, States.oneOfEach(0, 989, 0, 999)).named(0, 0, 0, 999), 2);
        C.due("named: OWNER 1 must buy", withPart(99, States.oneOfEach(0, 999, 0, 990)).named(1, 0, 0, 999), 1);
        C.due("named: OWNER 1's COIN is lacking", withPart(99, States.oneOfEach(0, 999, 0, 989)).named(1, 0, 0, 999), 2);
        C.due("named: who chooses would, but hasn't the COIN", States.oneOfEach(0, 999, 999, 0).named(0, 0, 0, 1), 0);
        C.due("named: for 0 no COIN is needed", States.oneOfEach(0, 0, 5, 0).named(0, 0, 0, 0), 1);
    }

    /** At 100 each OWNER's SIGN 0 has the COIN, its SIGN 1 hasn't. */
    private static void coinOfEachSign() {
        MillPaper x = States.coins();
        int[][] who = {{1, 0}, {1, 2}};
        int[][] whoByOne = {{0, 0}, {1, 2}};
        int[][] zeroGets = {{5000, 25000}, {5000, 0}};
        int[][] oneGetsByOne = {{5000, 5000}, {35000, 0}};
        for (int i = 0; i < 2; i++) {
            for (int j = 0; j < 2; j++) {
                String call = " of " + i + " and " + j;
                C.due("named:" + call, x.named(0, i, j, 100), who[i][j]);
                C.due("named: by OWNER 1" + call, x.named(1, i, j, 100), whoByOne[i][j]);
                C.due("gets:" + call, x.gets(0, 0, i, j, 100), zeroGets[i][j]);
                C.due("gets: OWNER 1 by itself" + call, x.gets(1, 1, i, j, 100), oneGetsByOne[i][j]);
            }
        }
    }

    // ---- promise 7: gets

    private static void refusedGets() {
        for (int owner : Beyond.OWNERS) {
            READY.due("gets: owner " + owner, x -> x.gets(owner, 0, 0, 0, 5), -1 - INT);
            READY.due("gets: namer " + owner, x -> x.gets(0, owner, 0, 0, 5), -1 - INT);
        }
        for (int sign : Beyond.THREE_SIGNS) {
            READY.due("gets: sign i " + sign, x -> x.gets(1, 0, sign, 0, 5), -1 - INT);
            READY.due("gets: sign j " + sign, x -> x.gets(0, 1, 0, sign, 5), -1 - INT);
        }
        for (int p : Beyond.NUMBERS) {
            READY.due("gets: price " + p, x -> x.gets(0, 0, 0, 0, p), -1 - INT);
        }
        NEW.due("gets: no SIGNS", x -> x.gets(0, 0, 0, 0, 0), -1 - INT);
        ZERO_UNREADY.due("gets: OWNER 0 needn't be READY", x -> x.gets(0, 0, 0, 1, 150), 6000);
        ONE_UNREADY.due("gets: OWNER 1 needn't be READY", x -> x.gets(1, 0, 0, 1, 150), 9000);
    }

    private static void leastAndGreatestGains() {
        MillPaper x = withPart(1, States.oneOfEach(0, 990, 0, 999));
        C.due("gets: the least, by who buys", x.gets(0, 0, 0, 0, 999), -98901);
        C.due("gets: the most, by who sells", x.gets(1, 0, 0, 0, 999), 98901);
        MillPaper y = States.oneOfEach(999, 999, 999, 0);
        C.due("gets: the most, by who buys", y.gets(1, 0, 0, 0, 0), 99900);
        C.due("gets: the least, by who sells", y.gets(0, 0, 0, 0, 0), 0);
        MillPaper z = withPart(99, States.oneOfEach(0, 0, 0, 0));
        z.set(1, 999);
        C.due("gets: of OUTSIDE, the greatest PART", z.gets(0, 0, 0, 0, 1), 98901);
        C.due("gets: of OUTSIDE, the least PART", z.gets(1, 0, 0, 0, 1), 999);
        z.set(1, 0);
        C.due("gets: of no OUTSIDE", z.gets(0, 0, 0, 0, 1), 0);
    }

    // ---- promise 8: meanNamed

    private static void refusedMeans(String where, Unchanged state) {
        for (int owner : Beyond.OWNERS) {
            state.due("meanNamed: owner " + owner + where, x -> x.meanNamed(owner, 0, 5), -1 - LONG);
        }
        for (int sign : Beyond.THREE_SIGNS) {
            state.due("meanNamed: sign " + sign + where, x -> x.meanNamed(0, sign, 5), -1 - LONG);
            state.due("meanNamed: sign " + sign + " of OWNER 1" + where, x -> x.meanNamed(1, sign, 5), -1 - LONG);
        }
        for (int p : Beyond.NUMBERS) {
            state.due("meanNamed: price " + p + where, x -> x.meanNamed(0, 0, p), -1 - LONG);
            state.due("meanNamed: price " + p + " of OWNER 1" + where, x -> x.meanNamed(1, 0, p), -1 - LONG);
        }
    }

    private static void meanNamed() {
        ONE_UNREADY.due("meanNamed: the other's CHANCES are 99", x -> x.meanNamed(0, 0, 5), -3 - LONG);
        ZERO_UNREADY.due("meanNamed: the other's CHANCES are 99, of OWNER 1", x -> x.meanNamed(1, 0, 5), -3 - LONG);
        // 120 doesn't buy at 150, 150 and 250 do: 15000 - 9000, and 6000 twice.
        ZERO_UNREADY.due("meanNamed: the namer needn't be READY", x -> x.meanNamed(0, 0, 150), 600000);
        READY.due("meanNamed: nothing changes", x -> x.meanNamed(0, 0, 150), 600000);
        FULL.due("meanNamed: five SIGNS, four of them buy", x -> x.meanNamed(0, 0, 250), 950000);
        FULL.due("meanNamed: five SIGNS, three of them buy", x -> x.meanNamed(0, 0, 251), 651000);
        FULL.due("meanNamed: by OWNER 1's last SIGN", x -> x.meanNamed(1, 4, 401), 20 * (20050 + 4 * (55000 - 20050)));
        MillPaper x = new MillPaper();
        x.sign(0, 100, 5, 5);
        C.due("meanNamed: the other has no SIGNS", x.meanNamed(0, 0, 5), -3 - LONG);
    }

    private static void meanNamedToTheEnds() {
        MillPaper x = withPart(1, States.oneOfEach(0, 990, 0, 999));
        C.due("meanNamed: the least", x.meanNamed(0, 0, 999), -9890100);
        C.due("meanNamed: for 0", x.meanNamed(0, 0, 0), 0);
        MillPaper y = withPart(99, States.oneOfEach(999, 999, 0, 0));
        C.due("meanNamed: the greatest", y.meanNamed(0, 0, 1), 9989900);
    }

    // ---- promise 9: bestPrice

    private static void refusedBestPrices(String where, Unchanged state) {
        for (int owner : Beyond.OWNERS) {
            state.due("bestPrice: owner " + owner + where, x -> x.bestPrice(owner, 0), -1);
            state.due("purse: owner " + owner + where, x -> x.purse(owner, 0), -1);
        }
        for (int sign : Beyond.THREE_SIGNS) {
            for (int owner = 0; owner < 2; owner++) {
                int o = owner;
                String call = ": OWNER " + o + "'s sign " + sign + where;
                state.due("bestPrice" + call, x -> x.bestPrice(o, sign), -1);
                state.due("purse" + call, x -> x.purse(o, sign), -1);
                state.due("meanChosen" + call, x -> x.meanChosen(o, sign), -1 - LONG);
            }
        }
    }

    private static void bestPrice() {
        NEW.due("bestPrice: no SIGNS", x -> x.bestPrice(0, 0), -1);
        ONE_UNREADY.due("bestPrice: the other's CHANCES are 99", x -> x.bestPrice(0, 0), -3);
        ZERO_UNREADY.due("bestPrice: the other's CHANCES are 99, of OWNER 1", x -> x.bestPrice(1, 0), -3);
        int[] ofZero = {250, 250, 350, 351, 351};
        int[] ofOne = {200, 300, 301, 301, 401};
        for (int s = 0; s < 5; s++) {
            int sign = s;
            FULL.due("bestPrice: OWNER 0's sign " + s, x -> x.bestPrice(0, sign), ofZero[s]);
            FULL.due("bestPrice: OWNER 1's sign " + s, x -> x.bestPrice(1, sign), ofOne[s]);
        }
        FULL.due("bestPrice: 350 is as good as 250", x -> x.meanNamed(0, 1, 350) - x.meanNamed(0, 1, 250), 0);
    }

    private static void bestPriceToTheEnds() {
        C.due("bestPrice: 0", States.oneOfEach(0, 0, 0, 0).bestPrice(0, 0), 0);
        C.due("bestPrice: 0, of all that are alike", States.oneOfEach(0, 0, 999, 0).bestPrice(0, 0), 0);
        C.due("bestPrice: 1, behind 0", States.oneOfEach(999, 999, 0, 0).bestPrice(0, 0), 1);
        C.due("bestPrice: 998", States.oneOfEach(0, 0, 998, 999).bestPrice(0, 0), 998);
        C.due("bestPrice: 999", States.oneOfEach(0, 0, 999, 999).bestPrice(0, 0), 999);
        C.due("bestPrice: 999, behind 998", States.oneOfEach(999, 999, 998, 999).bestPrice(0, 0), 999);
        // At 999 OWNER 1 buys still, so that OWNER 0 can't have it.
        C.due("bestPrice: nothing is behind 999", States.oneOfEach(999, 999, 999, 999).bestPrice(0, 0), 999);
        MillPaper x = States.oneOfEach(0, 999, 100, 999);
        x.set(1, 999);
        // OWNER 0 has coin for each price, so that strangers never come.
        C.due("bestPrice: OUTSIDE can't be come by", x.bestPrice(0, 0), 100);
        x.change(0, 0, 2, 499);
        C.due("bestPrice: behind the last one that OWNER 0 has the COIN for", x.bestPrice(0, 0), 999);
        x.change(0, 0, 2, 498);
        C.due("bestPrice: the least of those behind it", x.bestPrice(0, 0), 997);
    }

    // ---- promise 10: tells

    private static void tells(String where, Unchanged state) {
        for (int owner : Beyond.OWNERS) {
            state.due("tells: owner " + owner + where, x -> x.tells(owner, 5), -1);
        }
        for (int p : Beyond.NUMBERS) {
            state.due("tells: price " + p + where, x -> x.tells(0, p), -1);
            state.due("tells: price " + p + " of OWNER 1" + where, x -> x.tells(1, p), -1);
        }
    }

    private static void toldByFive() {
        FULL.due("tells: 250", x -> x.tells(0, 250), 40);
        FULL.due("tells: 350", x -> x.tells(0, 350), 20);
        FULL.due("tells: 351", x -> x.tells(0, 351), 40);
        FULL.due("tells: 249, by none", x -> x.tells(0, 249), 0);
        FULL.due("tells: 200 by OWNER 1", x -> x.tells(1, 200), 20);
        FULL.due("tells: 301 by OWNER 1", x -> x.tells(1, 301), 40);
        FULL.due("tells: 401 by OWNER 1", x -> x.tells(1, 401), 20);
        FULL.due("tells: 250 by OWNER 1, by none", x -> x.tells(1, 250), 0);
        C.due("tells: 0, by all", States.oneOfEach(0, 0, 0, 0).tells(0, 0), 100);
        C.due("tells: 999, by all", States.oneOfEach(0, 0, 999, 999).tells(0, 999), 100);
        C.due("tells: 998, by none", States.oneOfEach(0, 0, 999, 999).tells(0, 998), 0);
        MillPaper x = new MillPaper();
        x.sign(0, 1, 0, 0);
        for (int s = 0; s < 3; s++) {
            x.sign(0, 33, 0, 0);
        }
        x.sign(1, 100, 999, 999);
        C.due("tells: four SIGNS together", x.tells(0, 999), 100);
    }

    // ---- promises 10 to 12: both must be READY

    private static void notReady(String where, Unchanged state) {
        for (int owner = 0; owner < 2; owner++) {
            int o = owner;
            state.due("tells: OWNER " + o + "'s price" + where, x -> x.tells(o, 5), -3);
            state.due("meanChosen: OWNER " + o + "'s sign" + where, x -> x.meanChosen(o, 0), -3 - LONG);
            state.due("waits: what " + o + where, x -> x.waits(60, o), -3);
        }
    }

    /** With no SIGNS at all nobody is READY either. */
    private static void noSigns() {
        NEW.due("tells: no SIGNS", x -> x.tells(0, 0), -3);
        NEW.due("tells: no SIGNS of OWNER 1", x -> x.tells(1, 0), -3);
        NEW.due("waits: no SIGNS", x -> x.waits(0, 0), -3);
    }

    // ---- promise 11: meanChosen

    private static void meanChosen() {
        for (int owner : Beyond.OWNERS) {
            READY.due("meanChosen: owner " + owner, x -> x.meanChosen(owner, 0), -1 - LONG);
            ZERO_UNREADY.due("meanChosen: owner " + owner + ", ahead of not READY",
                x -> x.meanChosen(owner, 0), -1 - LONG);
        }
        NEW.due("meanChosen: no SIGNS, ahead of not READY", x -> x.meanChosen(0, 0), -1 - LONG);
        // 250 twice and 350: it buys; 351 twice: OWNER 0 must.
        FULL.due("meanChosen: OWNER 1's sign 2", x -> x.meanChosen(1, 2), 20 * (2 * 22500 + 17500 + 2 * 17550));
        // 200 and 300: it buys; 301 twice and 401: OWNER 1 must.
        FULL.due("meanChosen: OWNER 0's sign 2", x -> x.meanChosen(0, 2), 20 * (20000 + 15000 + 2 * 15050 + 20050));
        FULL.due("meanChosen: OWNER 1's last sign buys at all", x -> x.meanChosen(1, 4), 3948000);
        FULL.due("meanChosen: OWNER 0's first sign buys at none", x -> x.meanChosen(0, 0), 1503000);
    }

    // ---- promise 12: waits

    private static void refusedWaits(String where, Unchanged state) {
        for (int last : Beyond.from0To(60)) {
            state.due("waits: last " + last + where, x -> x.waits(last, 0), -1);
        }
        for (int what : Beyond.from0To(1)) {
            state.due("waits: what " + what + where, x -> x.waits(5, what), -1);
        }
    }

    /** By OWNER 0: 10000 for it and 20000 for the other; by OWNER 1: 10025 and 19975 (times 10000). */
    private static MillPaper waiting(int lossOfZero, int lossOfOne) {
        MillPaper x = new MillPaper();
        x.sign(0, 100, 200, 999);
        x.sign(1, 50, 0, 999);
        x.sign(1, 50, 400, 999);
        x.set(2, lossOfZero);
        x.set(3, lossOfOne);
        return x;
    }

    private static void names(String call, MillPaper x, int last, int who, int when) {
        C.due("waits: " + call + " to " + last + ", who", x.waits(last, 0), who);
        C.due("waits: " + call + " to " + last + ", when", x.waits(last, 1), when);
    }

    private static void waits() {
        for (int last = 0; last <= 60; last++) {
            int named = last < 2 ? 0 : 1;
            names("OWNER 0 waits for OWNER 1", waiting(24, 25), last, named, named);
            names("as much by OWNER 0", waiting(25, 25), last, 0, 0);
            names("OWNER 1 would wait", waiting(24, 24), last, 0, 0);
            names("waiting costs OWNER 0 nothing", waiting(0, 25), last, named, named);
            names("waiting costs nothing", waiting(0, 0), last, 0, 0);
            names("waiting costs the most", waiting(99, 99), last, 0, 0);
            names("waiting costs OWNER 1 the most", waiting(24, 99), last, named, named);
        }
        MillPaper alike = States.oneOfEach(0, 0, 0, 0);
        alike.set(2, 0);
        alike.set(3, 0);
        names("as much whenever, of two days", alike, 1, 0, 0);
        names("as much whenever, of all days", alike, 60, 0, 0);
        FULL.due("waits: nothing changes", x -> x.waits(60, 0) - x.waits(60, 1), 0);
    }

    /** Of 10000 times LOSS: by waiting OWNER 0 has 250012 more, so that 25 days' hundredths are just too few. */
    private static void tenThousandTimesLossOfZero() {
        MillPaper x = new MillPaper();
        x.set(0, 28);
        x.set(1, 16);
        x.sign(0, 99, 58, 37);
        x.sign(0, 1, 9, 27);
        x.sign(1, 89, 55, 19);
        x.sign(1, 11, 32, 45);
        x.set(3, 99);
        x.set(2, 25);
        names("250000 are less than 250012", x, 2, 1, 1);
        x.set(2, 26);
        names("260000 are more than 250012", x, 2, 0, 0);
    }

    /** By waiting OWNER 1 has 580020 more, and OWNER 0 1781220. */
    private static void tenThousandTimesLossOfOne() {
        MillPaper x = new MillPaper();
        x.set(0, 70);
        x.set(1, 26);
        x.sign(0, 21, 0, 32);
        x.sign(0, 79, 58, 13);
        x.sign(1, 22, 27, 14);
        x.sign(1, 78, 45, 37);
        x.set(2, 99);
        x.set(3, 58);
        names("580000 are less than 580020", x, 60, 0, 0);
        x.set(3, 59);
        names("590000 are more than 580020", x, 60, 1, 1);
    }

    /** By OWNER 0: 7500 and 20000, by OWNER 1: 7525 and 19975: one with the less WORTH has it at times. */
    private static void waitsOfTwoSigns() {
        MillPaper x = new MillPaper();
        x.sign(0, 50, 150, 999);
        x.sign(0, 50, 100, 999);
        x.sign(1, 50, 400, 999);
        x.sign(1, 50, 150, 999);
        x.set(2, 0);
        x.set(3, 99);
        names("OWNER 0 has more by waiting", x, 60, 1, 1);
        x.set(2, 24);
        x.set(3, 25);
        names("OWNER 0 has a little more, OWNER 1 as much", x, 60, 1, 1);
        x.set(3, 24);
        names("OWNER 1 has a little more", x, 60, 0, 0);
        x.set(2, 25);
        x.set(3, 25);
        names("OWNER 0 has as much", x, 60, 0, 0);
    }

    // ---- promise 13: purse

    private static MillPaper lacking(int coin) {
        return withPart(99, States.oneOfEach(0, 0, 999, coin));
    }

    private static void purse() {
        NEW.due("purse: no SIGNS", x -> x.purse(0, 0), -1);
        ONE_UNREADY.due("purse: the other's CHANCES are 99", x -> x.purse(0, 0), -3);
        ZERO_UNREADY.due("purse: the other's CHANCES are 99, of OWNER 1", x -> x.purse(1, 0), -3);
        new Unchanged(C, () -> lacking(0)).due("purse: the least, 1 is paid with", x -> x.purse(0, 0), 1);
        new Unchanged(C, () -> lacking(989)).due("purse: 999 are paid with 990", x -> x.purse(0, 0), 990);
        C.due("purse: 998 was the best one", lacking(989).bestPrice(0, 0), 998);
        C.due("purse: 999 is the best one then", lacking(990).bestPrice(0, 0), 999);
        new Unchanged(C, () -> lacking(990)).due("purse: 999 are paid already", x -> x.purse(0, 0), -4);
        new Unchanged(C, () -> lacking(999)).due("purse: no more COIN can be", x -> x.purse(0, 0), -4);
        C.due("purse: of OWNER 1's names", States.oneOfEach(500, 0, 0, 0).purse(1, 0), 1);
        C.due("purse: whom it is worth nothing", States.oneOfEach(0, 0, 0, 0).purse(0, 0), -4);
    }

    /**
     * OWNER 0's SIGNS name 41 (SIGN 1 lacks COIN for it) and 400, OWNER 1's 201 and 21. The former: 21 pays
     * 42; 100 pays 200, by both. The latter: 101 pays 202; 11 pays 22.
     */
    private static void purseOfEachSign() {
        MillPaper x = States.coins();
        int[][] best = {{41, 400}, {201, 21}};
        int[][] purse = {{21, 100}, {101, 11}};
        Unchanged state = new Unchanged(C, States::coins);
        for (int owner = 0; owner < 2; owner++) {
            for (int sign = 0; sign < 2; sign++) {
                int o = owner;
                int s = sign;
                String call = " of OWNER " + owner + "'s sign " + sign;
                C.due("bestPrice:" + call, x.bestPrice(owner, sign), best[owner][sign]);
                state.due("purse:" + call, y -> y.purse(o, s), purse[owner][sign]);
            }
        }
        x.change(1, 1, 2, 21);
        C.due("purse: the price that is another", x.bestPrice(0, 0), 43);
    }

    /** Just the last one of five is worth something, and has no COIN. */
    private static void purseOfTheLastSign() {
        MillPaper x = new MillPaper();
        x.sign(0, 100, 0, 0);
        for (int s = 0; s < 4; s++) {
            x.sign(1, 10, 0, 999);
        }
        x.sign(1, 60, 500, 0);
        C.due("purse: of the last one of five", x.purse(0, 0), 1);
        C.due("purse: its COIN is as it was", x.of(1, 4, 2), 0);
        C.due("purse: asked again", x.purse(0, 0), 1);
    }

    public static void main(String[] args) {
        refusedNames();
        signsOfJustOne();
        worthJustSoMuch();
        coinJustSoMuch();
        coinOfEachSign();
        refusedGets();
        leastAndGreatestGains();
        refusedMeans("", READY);
        refusedMeans(", ahead of OWNER 0 not READY", ZERO_UNREADY);
        refusedMeans(", ahead of OWNER 1 not READY", ONE_UNREADY);
        meanNamed();
        meanNamedToTheEnds();
        refusedBestPrices("", READY);
        refusedBestPrices(", ahead of OWNER 0 not READY", ZERO_UNREADY);
        refusedBestPrices(", ahead of OWNER 1 not READY", ONE_UNREADY);
        bestPrice();
        bestPriceToTheEnds();
        tells("", READY);
        tells(", ahead of OWNER 0 not READY", ZERO_UNREADY);
        tells(", ahead of OWNER 1 not READY", ONE_UNREADY);
        toldByFive();
        notReady(", OWNER 0's CHANCES are 99", ZERO_UNREADY);
        notReady(", OWNER 1's CHANCES are 99", ONE_UNREADY);
        noSigns();
        meanChosen();
        refusedWaits("", READY);
        refusedWaits(", ahead of OWNER 0 not READY", ZERO_UNREADY);
        refusedWaits(", ahead of OWNER 1 not READY", ONE_UNREADY);
        waits();
        waitsOfTwoSigns();
        tenThousandTimesLossOfZero();
        tenThousandTimesLossOfOne();
        purse();
        purseOfEachSign();
        purseOfTheLastSign();
        C.end();
    }
}
