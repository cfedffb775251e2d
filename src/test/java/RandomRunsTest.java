import java.util.Random;

/** Random runs of some 500 calls, on the class and on the plain form of the document. */
public final class RandomRunsTest {
    private static final int CALLS = 500;
    private static final int[] WILD = {
        Integer.MIN_VALUE, Integer.MIN_VALUE + 1, -1000, -2, -1, 0, 1, 2, 7, 8, 99, 100, 101, 999, 1000, 65536,
        Integer.MAX_VALUE - 1, Integer.MAX_VALUE
    };

    private final Random random;
    private final Checks checks;
    private final int greatest;
    private MillPaper x = new MillPaper();
    private PlainMill y = new PlainMill();
    private int run;
    private int call;

    private RandomRunsTest(int run, Checks checks) {
        this.run = run;
        this.checks = checks;
        this.random = new Random(run);
        this.greatest = random.nextInt(3) == 0 ? 12 : 999;
    }

    private int upTo(int most) {
        return random.nextInt(60) == 0 ? WILD[random.nextInt(WILD.length)] : random.nextInt(most + 1);
    }

    private int owner() {
        return upTo(1);
    }

    private int someSign() {
        return random.nextInt(8) == 0 ? upTo(4) : upTo(2);
    }

    private int number() {
        return upTo(greatest);
    }

    private int shelf() {
        return random.nextInt(4) == 0 ? upTo(7) : upTo(2);
    }

    private int step() {
        return random.nextBoolean() ? 200 + random.nextInt(300) : 45 + upTo(960);
    }

    private void same(String name, long got, long want, int... args) {
        if (got != want) {
            checks.due("run " + run + ", call " + call + ": " + name + java.util.Arrays.toString(args), got, want);
        } else {
            checks.due(name, got, want);
        }
    }

    private long elementOf(int d, int i) {
        try {
            return x.element(d, i);
        } catch (IllegalArgumentException e) {
            return PlainMill.THROWS_ARGUMENT;
        } catch (IllegalStateException e) {
            return PlainMill.THROWS_STATE;
        }
    }

    /** Most runs need owners that are ready, with a chance that is as told and numbers as they come. */
    private void makeReady() {
        for (int o = 0; o < 2; o++) {
            int left = 100;
            int signs = 1 + random.nextInt(random.nextBoolean() ? 2 : 5);
            for (int s = 0; s < signs; s++) {
                int chance = s == signs - 1 ? left : 1 + random.nextInt(left - (signs - s - 1));
                left -= chance;
                int worth = random.nextInt(greatest + 1);
                int coin = random.nextInt(3) == 0 ? 999 : random.nextInt(greatest + 1);
                same("sign", x.sign(o, chance, worth, coin), y.sign(o, chance, worth, coin), o, chance, worth, coin);
                call++;
            }
        }
    }

    private void putBoth(int d, int i, int v) {
        same("put", x.put(d, i, v), y.put(d, i, v), d, i, v);
        call++;
    }

    /** A paper of bids and a row that fits it, most of it bids of like steps, so that some are at rest. */
    private void prepareBids(int d, int e) {
        int kind = random.nextInt(3) == 0 ? 7 : 2 + random.nextInt(2);
        int sort = 1 + random.nextInt(2);
        int signs = y.n(0) + y.n(1);
        int same = random.nextInt(greatest + 1);
        same("keep", x.keep(d, 1, kind, 5), y.keep(d, 1, kind, 5), d, 1, kind, 5);
        same("row", x.row(e, sort, signs), y.row(e, sort, signs), e, sort, signs);
        call += 2;
        for (int k = 0; k < signs; k++) {
            putBoth(e, k, random.nextInt(3) == 0 ? same : random.nextInt(greatest + 1));
        }
    }

    private void prepareKinds(int d) {
        int n = 1 + random.nextInt(8);
        same("row", x.row(d, 0, n), y.row(d, 0, n), d, 0, n);
        call++;
        for (int k = 0; k < n; k++) {
            putBoth(d, k, random.nextInt(8));
        }
    }

    private void oneCall() {
        int a = owner();
        int b = someSign();
        int c = someSign();
        int d = shelf();
        int e = shelf();
        int n = number();
        int m = number();
        switch (random.nextInt(36)) {
            case 0: {
                int chance = upTo(100);
                same("sign", x.sign(a, chance, n, m), y.sign(a, chance, n, m), a, chance, n, m);
                break;
            }
            case 1: {
                int w = upTo(3);
                same("of", x.of(a, b, w), y.of(a, b, w), a, b, w);
                break;
            }
            case 2: {
                int w = upTo(3);
                same("change", x.change(a, b, w, n), y.change(a, b, w, n), a, b, w, n);
                break;
            }
            case 3: {
                int w = upTo(4);
                int v = w == 1 ? n : upTo(100);
                same("set", x.set(w, v), y.set(w, v), w, v);
                break;
            }
            case 4:
                same("named", x.named(a, b, c, n), y.named(a, b, c, n), a, b, c, n);
                break;
            case 5: {
                int o = owner();
                same("gets", x.gets(o, a, b, c, n), y.gets(o, a, b, c, n), o, a, b, c, n);
                break;
            }
            case 6:
                same("meanNamed", x.meanNamed(a, b, n), y.meanNamed(a, b, n), a, b, n);
                break;
            case 7:
                same("bestPrice", x.bestPrice(a, b), y.bestPrice(a, b), a, b);
                break;
            case 8: {
                int p = random.nextBoolean() ? Math.max(0, (int) y.bestPrice(a, b)) : n;
                same("tells", x.tells(a, p), y.tells(a, p), a, p);
                break;
            }
            case 9:
                same("meanChosen", x.meanChosen(a, b), y.meanChosen(a, b), a, b);
                break;
            case 10: {
                int last = upTo(61);
                int w = upTo(2);
                same("waits", x.waits(last, w), y.waits(last, w), last, w);
                break;
            }
            case 11:
                if (random.nextInt(8) == 0) {
                    same("purse", x.purse(a, b), y.purse(a, b), a, b);
                }
                break;
            case 12:
                same("has", x.has(d, b, c, n, m), y.has(d, b, c, n, m), d, b, c, n, m);
                break;
            case 13:
                same("pays", x.pays(d, a, b, c, n, m), y.pays(d, a, b, c, n, m), d, a, b, c, n, m);
                break;
            case 14:
            case 15:
                if (random.nextInt(4) == 0) {
                    prepareBids(d, e);
                }
                same("meanBid", x.meanBid(d, e, a, b), y.meanBid(d, e, a, b), d, e, a, b);
                break;
            case 16: {
                int s = step();
                if (random.nextInt(3) == 0) {
                    prepareBids(d, e);
                }
                same("rest", x.rest(d, e, s), y.rest(d, e, s), d, e, s);
                break;
            }
            case 17: {
                int s = step();
                int w = upTo(6) - 2;
                same("rests", x.rests(d, s, w), y.rests(d, s, w), d, s, w);
                break;
            }
            case 18:
            case 19: {
                int w = upTo(4);
                same("outcome", x.outcome(d, w), y.outcome(d, w), d, w);
                break;
            }
            case 20: {
                int w = upTo(2);
                if (random.nextInt(3) == 0) {
                    prepareKinds(d);
                }
                same("bestPaper", x.bestPaper(d, n, w), y.bestPaper(d, n, w), d, n, w);
                break;
            }
            case 21:
                same("knowing", x.knowing(), y.knowing());
                break;
            case 22:
                if (random.nextBoolean()) {
                    int s = someSign();
                    same("edge", x.edge(a, b, c, s), y.edge(a, b, c, s), a, b, c, s);
                }
                break;
            case 23: {
                int v = upTo(random.nextBoolean() ? 9 : 100);
                int w = upTo(random.nextBoolean() ? 9 : 100);
                same("piece", x.piece(v, w), y.piece(v, w), v, w);
                break;
            }
            case 24: {
                int w = upTo(2);
                same("cut", x.cut(a, w), y.cut(a, w), a, w);
                break;
            }
            case 25: {
                int k = upTo(51);
                int z = random.nextInt();
                int w = upTo(3);
                same("lots", x.lots(d, k, z, w), y.lots(d, k, z, w), d, k, z, w);
                break;
            }
            case 26:
                if (random.nextBoolean()) {
                    same("image", x.image(), y.image());
                } else if (random.nextInt(4) == 0) {
                    same("restore", x.restore(), y.restore());
                }
                break;
            case 27: {
                int w = upTo(6);
                same("count", x.count(w), y.count(w), w);
                break;
            }
            case 28: {
                int w = random.nextInt(8) == 0 ? upTo(2) : 1;
                int k = upTo(8);
                same("keep", x.keep(d, w, k, n), y.keep(d, w, k, n), d, w, k, n);
                break;
            }
            case 29: {
                int s = upTo(3);
                int k = random.nextBoolean() ? y.n(0) + y.n(1) : random.nextBoolean() ? upTo(10) - 1 : upTo(101);
                same("row", x.row(d, s, k), y.row(d, s, k), d, s, k);
                break;
            }
            case 30:
            case 31: {
                int i = upTo(6);
                int v = random.nextInt(10) == 0 ? random.nextInt() : random.nextBoolean() ? upTo(7) : n;
                same("put", x.put(d, i, v), y.put(d, i, v), d, i, v);
                break;
            }
            case 32: {
                int i = upTo(6);
                same("element", elementOf(d, i), y.element(d, i), d, i);
                break;
            }
            case 33: {
                int i = upTo(4);
                int j = upTo(4);
                int k = upTo(5) - 1;
                same("copy", x.copy(d, i, e, j, k), y.copy(d, i, e, j, k), d, i, e, j, k);
                break;
            }
            case 34:
                same("weight", x.weight(d), y.weight(d), d);
                break;
            default:
                same("toss", x.toss(d), y.toss(d), d);
                break;
        }
    }

    private void go() {
        if (run % 8 != 0) {
            makeReady();
        }
        for (; call < CALLS; call++) {
            oneCall();
        }
    }

    public static void main(String[] args) {
        int runs = args.length > 0 ? Integer.parseInt(args[0]) : 300;
        Checks checks = new Checks();
        for (int run = 1; run <= runs; run++) {
            new RandomRunsTest(run, checks).go();
        }
        checks.end();
    }
}
