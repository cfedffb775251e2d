/** Promises 1 to 5: a new object, sign, of, change, set. */
public final class OwnersTest {
    private static final Checks C = new Checks();

    private static void newObject() {
        MillPaper x = new MillPaper();
        for (int what = 0; what <= 4; what++) {
            C.due("new: count(" + what + ")", x.count(what), 0);
        }
        C.due("new: count(5)", x.count(5), 50);
        C.due("new: of", x.of(0, 0, 0), -1);
        C.due("new: restore", x.restore(), -3);
        for (int d = 0; d <= 7; d++) {
            C.due("new: weight(" + d + ")", x.weight(d), -11);
        }
        C.due("new: PART of OWNER 0", x.set(0, 1), 50);
        C.due("new: OUTSIDE", x.set(1, 1), 0);
        C.due("new: LOSS of OWNER 0", x.set(2, 5), 1);
        C.due("new: LOSS of OWNER 1", x.set(3, 6), 1);
    }

    private static void sign() {
        MillPaper x = new MillPaper();
        C.due("sign: owner -1", x.sign(-1, 10, 0, 0), -1);
        C.due("sign: owner 2", x.sign(2, 10, 0, 0), -1);
        C.due("sign: chance 0", x.sign(0, 0, 0, 0), -1);
        C.due("sign: chance 101", x.sign(0, 101, 0, 0), -1);
        C.due("sign: worth -1", x.sign(0, 10, -1, 0), -1);
        C.due("sign: worth 1000", x.sign(0, 10, 1000, 0), -1);
        C.due("sign: coin -1", x.sign(0, 10, 0, -1), -1);
        C.due("sign: coin 1000", x.sign(0, 10, 0, 1000), -1);
        C.due("sign: nothing came", x.count(0), 0);
        C.due("sign: chance 100", x.sign(0, 100, 999, 999), 0);
        C.due("sign: above 100", x.sign(0, 1, 0, 0), -3);
        C.due("sign: still one", x.count(0), 1);
        C.due("sign: chances still", x.count(2), 100);
        for (int s = 0; s <= 4; s++) {
            C.due("sign: of OWNER 1", x.sign(1, s + 1, 10 * s, 100 * s), s);
        }
        C.due("sign: no room", x.sign(1, 1, 0, 0), -2);
        C.due("sign: no room ahead of above 100", x.sign(1, 100, 0, 0), -2);
        C.due("sign: out of range ahead of no room", x.sign(1, 101, 0, 0), -1);
        C.due("sign: chances", x.count(3), 15);
        C.due("sign: the last one's coin", x.of(1, 4, 2), 400);
    }

    private static void of() {
        MillPaper x = new MillPaper();
        x.sign(0, 12, 34, 56);
        x.sign(1, 13, 35, 57);
        x.sign(1, 87, 0, 999);
        C.due("of: chance", x.of(0, 0, 0), 12);
        C.due("of: worth", x.of(0, 0, 1), 34);
        C.due("of: coin", x.of(0, 0, 2), 56);
        C.due("of: chance of 1", x.of(1, 0, 0), 13);
        C.due("of: worth of 1", x.of(1, 1, 1), 0);
        C.due("of: coin of 1", x.of(1, 1, 2), 999);
        C.due("of: owner -1", x.of(-1, 0, 0), -1);
        C.due("of: owner 2", x.of(2, 0, 0), -1);
        C.due("of: sign -1", x.of(0, -1, 0), -1);
        C.due("of: no such sign", x.of(0, 1, 0), -1);
        C.due("of: what -1", x.of(0, 0, -1), -1);
        C.due("of: what 3", x.of(0, 0, 3), -1);
    }

    private static void change() {
        MillPaper x = new MillPaper();
        x.sign(0, 12, 34, 56);
        x.sign(1, 13, 35, 57);
        C.due("change: worth", x.change(0, 0, 1, 999), 34);
        C.due("change: worth again", x.change(0, 0, 1, 0), 999);
        C.due("change: coin", x.change(1, 0, 2, 999), 57);
        C.due("change: chance", x.change(0, 0, 0, 5), -1);
        C.due("change: what 3", x.change(0, 0, 3, 5), -1);
        C.due("change: n -1", x.change(0, 0, 1, -1), -1);
        C.due("change: n 1000", x.change(0, 0, 2, 1000), -1);
        C.due("change: no such sign", x.change(0, 1, 1, 5), -1);
        C.due("change: sign -1", x.change(0, -1, 1, 5), -1);
        C.due("change: owner 2", x.change(2, 0, 1, 5), -1);
        C.due("change: the chance is as it was", x.of(0, 0, 0), 12);
        C.due("change: the worth", x.of(0, 0, 1), 0);
        C.due("change: the coin is as it was", x.of(0, 0, 2), 56);
        C.due("change: the worth of 1 is as it was", x.of(1, 0, 1), 35);
        C.due("change: the coin of 1", x.of(1, 0, 2), 999);
    }

    private static void set() {
        MillPaper x = new MillPaper();
        C.due("set: PART 0", x.set(0, 0), -1);
        C.due("set: PART 100", x.set(0, 100), -1);
        C.due("set: PART 99", x.set(0, 99), 50);
        C.due("set: PART of OWNER 1", x.count(5), 1);
        C.due("set: PART 1", x.set(0, 1), 99);
        C.due("set: PART of OWNER 1 again", x.count(5), 99);
        C.due("set: OUTSIDE -1", x.set(1, -1), -1);
        C.due("set: OUTSIDE 1000", x.set(1, 1000), -1);
        C.due("set: OUTSIDE 999", x.set(1, 999), 0);
        C.due("set: OUTSIDE 0", x.set(1, 0), 999);
        C.due("set: LOSS -1", x.set(2, -1), -1);
        C.due("set: LOSS 100", x.set(3, 100), -1);
        C.due("set: LOSS of 0", x.set(2, 99), 1);
        C.due("set: LOSS of 1", x.set(3, 0), 1);
        C.due("set: LOSS of 0 again", x.set(2, 7), 99);
        C.due("set: LOSS of 1 again", x.set(3, 7), 0);
        C.due("set: what -1", x.set(-1, 5), -1);
        C.due("set: what 4", x.set(4, 5), -1);
    }

    public static void main(String[] args) {
        newObject();
        sign();
        of();
        change();
        set();
        C.end();
    }
}
