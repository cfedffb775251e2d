/** Promises 6 to 13: named, gets, meanNamed, bestPrice, tells, meanChosen, waits, purse. */
public final class NamingTest {
    private static final Checks C = new Checks();
    private static final long LONG = 4000000000000000000L;

    private static MillPaper of(int worth0, int coin0, int worth1, int coin1) {
        MillPaper x = new MillPaper();
        x.sign(0, 100, worth0, coin0);
        x.sign(1, 100, worth1, coin1);
        return x;
    }

    private static void named() {
        MillPaper x = of(200, 300, 150, 60);
        C.due("named: who chooses buys", x.named(0, 0, 0, 100), 1);
        C.due("named: just the coin", x.named(0, 0, 0, 120), 1);
        C.due("named: the coin is lacking, the namer must buy", x.named(0, 0, 0, 121), 0);
        C.due("named: by OWNER 1, worth just so much", x.named(1, 0, 0, 200), 0);
        C.due("named: by OWNER 1, neither has it", x.named(1, 0, 0, 201), 2);
        x.set(0, 30);
        C.due("named: by parts, worth just so much", x.named(0, 0, 0, 150), 1);
        C.due("named: by parts, worth less", x.named(0, 0, 0, 151), 0);
        C.due("named: the namer's coin is enough", x.named(0, 0, 0, 428), 0);
        C.due("named: the namer's coin is lacking", x.named(0, 0, 0, 429), 2);
        C.due("named: 0", x.named(0, 0, 0, 0), 1);
        C.due("named: 999", x.named(0, 0, 0, 999), 2);
        C.due("named: -1", x.named(0, 0, 0, -1), -1);
        C.due("named: 1000", x.named(0, 0, 0, 1000), -1);
        C.due("named: namer -1", x.named(-1, 0, 0, 5), -1);
        C.due("named: namer 2", x.named(2, 0, 0, 5), -1);
        C.due("named: no sign of 0", x.named(0, 1, 0, 5), -1);
        C.due("named: no sign of 1", x.named(0, 0, 1, 5), -1);
        MillPaper y = new MillPaper();
        y.sign(0, 1, 10, 10);
        y.sign(1, 1, 10, 10);
        C.due("named: OWNERS needn't be READY", y.named(0, 0, 0, 10), 1);
    }

    private static void gets() {
        MillPaper x = of(200, 300, 150, 60);
        x.set(0, 30);
        x.set(1, 100);
        C.due("gets: the buyer", x.gets(1, 0, 0, 0, 150), 10500);
        C.due("gets: the seller", x.gets(0, 0, 0, 0, 150), 4500);
        C.due("gets: the namer that must buy", x.gets(0, 0, 0, 0, 151), 9430);
        C.due("gets: the other one", x.gets(1, 0, 0, 0, 151), 10570);
        C.due("gets: below 0", x.gets(0, 0, 0, 0, 428), -9960);
        C.due("gets: outside, 0", x.gets(0, 0, 0, 0, 429), 3000);
        C.due("gets: outside, 1", x.gets(1, 0, 0, 0, 429), 7000);
        C.due("gets: by OWNER 1", x.gets(0, 1, 0, 0, 200), 6000);
        C.due("gets: owner 2", x.gets(2, 0, 0, 0, 5), -1000000001);
        C.due("gets: owner -1", x.gets(-1, 0, 0, 0, 5), -1000000001);
        C.due("gets: namer 2", x.gets(0, 2, 0, 0, 5), -1000000001);
        C.due("gets: no sign", x.gets(0, 0, 0, 1, 5), -1000000001);
        C.due("gets: price 1000", x.gets(0, 0, 0, 0, 1000), -1000000001);
    }

    private static void severalSigns() {
        MillPaper x = new MillPaper();
        x.sign(0, 1, 300, 999);
        x.sign(0, 1, 400, 999);
        x.sign(1, 1, 200, 999);
        x.sign(1, 1, 500, 999);
        C.due("gets: OWNER 0 with sign 1", x.gets(0, 0, 1, 0, 300), 25000);
        C.due("gets: OWNER 1 with sign 1", x.gets(1, 0, 0, 1, 300), 35000);
        C.due("gets: OWNER 0 with sign 0, by OWNER 1", x.gets(0, 1, 0, 1, 300), 15000);
        C.due("gets: OWNER 1 with sign 1, by OWNER 1", x.gets(1, 1, 0, 1, 301), 34950);
    }

    private static void meanNamed() {
        MillPaper x = new MillPaper();
        x.sign(0, 10, 100, 999);
        C.due("meanNamed: the other isn't READY", x.meanNamed(0, 0, 5), -3 - LONG);
        C.due("meanNamed: no sign, ahead", x.meanNamed(0, 1, 5), -1 - LONG);
        C.due("meanNamed: price 1000, ahead", x.meanNamed(0, 0, 1000), -1 - LONG);
        x.sign(1, 40, 150, 999);
        C.due("meanNamed: not yet READY", x.meanNamed(0, 0, 5), -3 - LONG);
        x.sign(1, 60, 250, 999);
        C.due("meanNamed: just the other need be READY", x.meanNamed(0, 0, 200), 600000);
        C.due("meanNamed: below 0", x.meanNamed(0, 0, 300), -500000);
        C.due("meanNamed: OWNER 0 isn't READY", x.meanNamed(1, 0, 5), -3 - LONG);
        C.due("meanNamed: owner 2", x.meanNamed(2, 0, 5), -1 - LONG);
        C.due("meanNamed: price -1", x.meanNamed(0, 0, -1), -1 - LONG);
    }

    private static void bestPrice() {
        C.due("bestPrice: one more than the other buys at", of(300, 999, 200, 999).bestPrice(0, 0), 201);
        C.due("bestPrice: as much as the other buys at", of(100, 999, 200, 999).bestPrice(0, 0), 200);
        C.due("bestPrice: of OWNER 1", of(100, 999, 200, 999).bestPrice(1, 0), 101);
        MillPaper x = of(0, 0, 100, 999);
        x.set(1, 100);
        C.due("bestPrice: of like ones the least, at an end", x.bestPrice(0, 0), 100);
        x.change(1, 0, 2, 0);
        C.due("bestPrice: of like ones the least, behind 0", x.bestPrice(0, 0), 1);
        x.set(1, 0);
        C.due("bestPrice: all alike", x.bestPrice(0, 0), 0);
        C.due("bestPrice: the greatest", of(0, 0, 999, 999).bestPrice(0, 0), 999);
        C.due("bestPrice: as far as the coin goes", of(0, 0, 999, 100).bestPrice(0, 0), 200);
        C.due("bestPrice: no sign", x.bestPrice(0, 1), -1);
        C.due("bestPrice: owner 2", x.bestPrice(2, 0), -1);
        MillPaper y = new MillPaper();
        y.sign(0, 100, 5, 5);
        y.sign(1, 99, 5, 5);
        C.due("bestPrice: the other isn't READY", y.bestPrice(0, 0), -3);
        C.due("bestPrice: just the other need be READY", y.bestPrice(1, 0), 5);
        C.due("bestPrice: no sign, ahead", y.bestPrice(0, 1), -1);
    }

    private static void tells() {
        MillPaper x = new MillPaper();
        x.sign(0, 30, 300, 999);
        x.sign(0, 50, 400, 999);
        C.due("tells: nobody is READY", x.tells(0, 201), -3);
        x.sign(1, 100, 200, 999);
        C.due("tells: OWNER 0 isn't READY", x.tells(0, 201), -3);
        C.due("tells: out of range, ahead", x.tells(0, 1000), -1);
        x.sign(0, 20, 100, 999);
        C.due("tells: two of them", x.tells(0, 201), 80);
        C.due("tells: one of them", x.tells(0, 200), 20);
        C.due("tells: by none", x.tells(0, 202), 0);
        C.due("tells: by OWNER 1", x.tells(1, x.bestPrice(1, 0)), 100);
        C.due("tells: owner 2", x.tells(2, 0), -1);
        C.due("tells: owner -1", x.tells(-1, 0), -1);
        C.due("tells: price -1", x.tells(0, -1), -1);
        MillPaper y = new MillPaper();
        y.sign(0, 100, 300, 999);
        C.due("tells: OWNER 1 isn't READY", y.tells(0, 5), -3);
    }

    private static void meanChosen() {
        MillPaper x = new MillPaper();
        x.sign(0, 30, 300, 999);
        x.sign(0, 50, 400, 999);
        x.sign(1, 100, 200, 999);
        C.due("meanChosen: OWNER 0 isn't READY", x.meanChosen(1, 0), -3 - LONG);
        C.due("meanChosen: both must be", x.meanChosen(0, 0), -3 - LONG);
        C.due("meanChosen: no sign, ahead", x.meanChosen(1, 1), -1 - LONG);
        x.sign(0, 20, 100, 999);
        C.due("meanChosen: as 201 and 200 are named", x.meanChosen(1, 0), 80 * 10050 + 20 * 10000);
        C.due("meanChosen: owner 2", x.meanChosen(2, 0), -1 - LONG);
        C.due("meanChosen: sign -1", x.meanChosen(0, -1), -1 - LONG);
    }

    /** By 0: 10000 for 0 and 20000 for 1; by 1: 10025 and 19975 (times 10000). */
    private static void waits() {
        MillPaper x = new MillPaper();
        x.sign(0, 100, 200, 999);
        C.due("waits: not READY", x.waits(2, 0), -3);
        C.due("waits: out of range, ahead", x.waits(61, 0), -1);
        x.sign(1, 50, 0, 999);
        x.sign(1, 50, 400, 999);
        x.set(3, 25);
        C.due("waits: just the last day, who", x.waits(0, 0), 0);
        C.due("waits: just the last day, when", x.waits(0, 1), 0);
        C.due("waits: OWNER 0 names at once", x.waits(1, 0), 0);
        C.due("waits: OWNER 1 names on day 1, who", x.waits(2, 0), 1);
        C.due("waits: OWNER 1 names on day 1, when", x.waits(2, 1), 1);
        C.due("waits: the same to 60", x.waits(60, 0), 1);
        x.set(3, 24);
        C.due("waits: OWNER 1 would wait, who", x.waits(2, 0), 0);
        C.due("waits: OWNER 1 would wait, when", x.waits(2, 1), 0);
        x.set(3, 25);
        x.set(2, 25);
        C.due("waits: as much is enough for OWNER 0", x.waits(2, 0), 0);
        x.set(2, 24);
        C.due("waits: a hundredth more by waiting", x.waits(2, 0), 1);
        C.due("waits: last -1", x.waits(-1, 0), -1);
        C.due("waits: last 61", x.waits(61, 0), -1);
        C.due("waits: what -1", x.waits(2, -1), -1);
        C.due("waits: what 2", x.waits(2, 2), -1);
    }

    private static void purse() {
        MillPaper x = new MillPaper();
        x.sign(0, 100, 300, 999);
        C.due("purse: the other isn't READY", x.purse(0, 0), -3);
        C.due("purse: no sign, ahead", x.purse(0, 1), -1);
        x.sign(1, 98, 200, 999);
        x.sign(1, 2, 999, 0);
        C.due("purse: now 201 is best", x.bestPrice(0, 0), 201);
        C.due("purse: with 101 it is 203", x.purse(0, 0), 101);
        C.due("purse: the coin is as it was", x.of(1, 1, 2), 0);
        x.change(1, 1, 2, 101);
        C.due("purse: so it is", x.bestPrice(0, 0), 203);
        C.due("purse: the next other price", x.purse(0, 0), 102);
        x.change(1, 1, 2, 999);
        C.due("purse: nothing is lacking", x.purse(0, 0), -4);
        x.change(1, 1, 1, 0);
        x.change(1, 1, 2, 0);
        C.due("purse: what is lacking doesn't matter", x.purse(0, 0), -4);
        C.due("purse: owner 2", x.purse(2, 0), -1);
        C.due("purse: owner -1", x.purse(-1, 0), -1);
        MillPaper y = new MillPaper();
        y.sign(0, 1, 100, 999);
        y.sign(1, 100, 200, 0);
        C.due("purse: just the other need be READY", y.purse(0, 0), 1);
        C.due("purse: OWNER 0 is the other and isn't READY", y.purse(1, 0), -3);
    }

    public static void main(String[] args) {
        named();
        gets();
        severalSigns();
        meanNamed();
        bestPrice();
        tells();
        meanChosen();
        waits();
        purse();
        C.end();
    }
}
