/** Promises 1 to 5, at the edges that their sentences name: each refusal alone, which comes first, and that nothing changes. */
public final class OwnersEdgesTest {
    private static final Checks C = new Checks();
    private static final Unchanged NEW = new Unchanged(C, MillPaper::new);
    private static final Unchanged READY = new Unchanged(C, States::ready);
    private static final Unchanged FULL = new Unchanged(C, States::full);

    // ---- promise 1: a new object

    private static void objectsAreApart() {
        MillPaper first = States.ready();
        MillPaper second = new MillPaper();
        C.due("new: SIGNS of OWNER 0", second.count(0), 0);
        C.due("new: SIGNS of OWNER 1", second.count(1), 0);
        C.due("new: no IMAGE of another object", second.restore(), -3);
        C.due("new: no PIECES of another object", second.cut(0, 1), 0);
        second.sign(0, 1, 2, 3);
        second.set(0, 99);
        second.keep(0, 1, 0, 1);
        C.holds("new: the first one is as it was", Seen.by(first).equals(Seen.by(States.ready())));
    }

    private static void newHoldsNothing() {
        for (int d = 0; d < 8; d++) {
            int shelf = d;
            NEW.due("new: nothing in SHELF " + d, x -> x.toss(shelf), -11);
        }
        NEW.due("new: neither is READY", x -> x.tells(0, 0), -3);
    }

    // ---- promise 2: sign

    private static void leastAndGreatestSign() {
        MillPaper x = new MillPaper();
        C.due("sign: the least of all", x.sign(0, 1, 0, 0), 0);
        C.due("sign: the least CHANCE", x.of(0, 0, 0), 1);
        C.due("sign: the least WORTH", x.of(0, 0, 1), 0);
        C.due("sign: the least COIN", x.of(0, 0, 2), 0);
        C.due("sign: the greatest of all", x.sign(1, 100, 999, 999), 0);
        C.due("sign: the greatest CHANCE", x.of(1, 0, 0), 100);
        C.due("sign: the greatest WORTH", x.of(1, 0, 1), 999);
        C.due("sign: the greatest COIN", x.of(1, 0, 2), 999);
    }

    private static void outOfRange(String where, Unchanged state) {
        for (int owner : Beyond.OWNERS) {
            state.due("sign: owner " + owner + where, x -> x.sign(owner, 1, 0, 0), -1);
        }
        for (int chance : Beyond.CHANCES) {
            state.due("sign: CHANCE " + chance + where, x -> x.sign(0, chance, 0, 0), -1);
            state.due("sign: CHANCE " + chance + " of OWNER 1" + where, x -> x.sign(1, chance, 0, 0), -1);
        }
        for (int number : Beyond.NUMBERS) {
            state.due("sign: WORTH " + number + where, x -> x.sign(0, 1, number, 0), -1);
            state.due("sign: COIN " + number + where, x -> x.sign(1, 1, 0, number), -1);
        }
    }

    private static void chancesTogether() {
        READY.due("sign: CHANCES would be 101", x -> x.sign(0, 1, 0, 0), -3);
        READY.due("sign: CHANCES would be 200", x -> x.sign(1, 100, 0, 0), -3);
        MillPaper x = new MillPaper();
        x.sign(0, 60, 0, 0);
        C.due("sign: CHANCES would be just above 100", x.sign(0, 41, 0, 0), -3);
        C.due("sign: another OWNER's CHANCES are apart", x.sign(1, 41, 0, 0), 0);
        C.due("sign: CHANCES are just 100", x.sign(0, 40, 0, 0), 1);
        C.due("sign: no CHANCE is left", x.sign(0, 1, 0, 0), -3);
        C.due("sign: CHANCES of OWNER 0", x.count(2), 100);
        C.due("sign: CHANCES of OWNER 1", x.count(3), 41);
    }

    private static void room() {
        FULL.due("sign: no room, ahead of CHANCES above 100", x -> x.sign(0, 1, 0, 0), -2);
        FULL.due("sign: no room of OWNER 1, ahead of CHANCES above 100", x -> x.sign(1, 100, 0, 0), -2);
        MillPaper x = new MillPaper();
        for (int s = 0; s < 5; s++) {
            C.due("sign: number " + s, x.sign(0, 10, 0, 0), s);
        }
        C.due("sign: no room, while CHANCES are left", x.sign(0, 1, 0, 0), -2);
        C.due("sign: no room, ahead of CHANCES that would be above 100", x.sign(0, 51, 0, 0), -2);
        C.due("sign: five, still", x.count(0), 5);
        C.due("sign: CHANCES, still", x.count(2), 50);
        C.due("sign: room of the other OWNER", x.sign(1, 10, 0, 0), 0);
    }

    // ---- promise 3: of

    private static void of() {
        for (int owner : Beyond.OWNERS) {
            READY.due("of: owner " + owner, x -> x.of(owner, 0, 0), -1);
        }
        for (int sign : Beyond.THREE_SIGNS) {
            READY.due("of: sign " + sign, x -> x.of(0, sign, 0), -1);
            READY.due("of: sign " + sign + " of OWNER 1", x -> x.of(1, sign, 2), -1);
        }
        for (int sign : Beyond.FIVE_SIGNS) {
            FULL.due("of: sign " + sign + " of five", x -> x.of(1, sign, 1), -1);
        }
        for (int what : Beyond.from0To(2)) {
            READY.due("of: what " + what, x -> x.of(0, 0, what), -1);
        }
        NEW.due("of: no SIGNS", x -> x.of(1, 0, 0), -1);
        FULL.due("of: the last of five, CHANCE", x -> x.of(1, 4, 0), 20);
        FULL.due("of: the last of five, WORTH", x -> x.of(1, 4, 1), 550);
        FULL.due("of: the last of five, COIN", x -> x.of(1, 4, 2), 999);
        FULL.due("of: the first of five", x -> x.of(0, 0, 1), 100);
    }

    private static void signsOfTheOtherOne() {
        MillPaper x = new MillPaper();
        x.sign(0, 1, 2, 3);
        x.sign(0, 4, 5, 6);
        x.sign(1, 7, 8, 9);
        C.due("of: just OWNER 0 has it", x.of(0, 1, 0), 4);
        C.due("of: OWNER 1 hasn't", x.of(1, 1, 0), -1);
        C.due("change: just OWNER 0 has it", x.change(0, 1, 1, 10), 5);
        C.due("change: OWNER 1 hasn't", x.change(1, 1, 1, 10), -1);
    }

    // ---- promise 4: change

    private static void change() {
        for (int owner : Beyond.OWNERS) {
            READY.due("change: owner " + owner, x -> x.change(owner, 0, 1, 5), -1);
        }
        for (int sign : Beyond.THREE_SIGNS) {
            READY.due("change: sign " + sign, x -> x.change(0, sign, 1, 5), -1);
            READY.due("change: sign " + sign + " of OWNER 1", x -> x.change(1, sign, 2, 5), -1);
        }
        int[] whats = {Integer.MIN_VALUE, -1, 0, 3, Integer.MAX_VALUE};
        for (int what : whats) {
            READY.due("change: what " + what, x -> x.change(0, 0, what, 5), -1);
        }
        for (int n : Beyond.NUMBERS) {
            READY.due("change: WORTH " + n, x -> x.change(0, 0, 1, n), -1);
            READY.due("change: COIN " + n, x -> x.change(1, 2, 2, n), -1);
        }
        NEW.due("change: no SIGNS", x -> x.change(0, 0, 1, 5), -1);
    }

    private static void changedNumbers() {
        for (int owner = 0; owner < 2; owner++) {
            for (int what = 1; what <= 2; what++) {
                MillPaper x = States.full();
                String call = "change: OWNER " + owner + ", what " + what;
                int was = x.of(owner, 4, what);
                int other = x.of(owner, 4, 3 - what);
                C.due(call + ", to 0", x.change(owner, 4, what, 0), was);
                C.due(call + ", is 0", x.of(owner, 4, what), 0);
                C.due(call + ", to 999", x.change(owner, 4, what, 999), 0);
                C.due(call + ", is 999", x.of(owner, 4, what), 999);
                C.due(call + ", the other number is as it was", x.of(owner, 4, 3 - what), other);
                C.due(call + ", the CHANCE is as it was", x.of(owner, 4, 0), 20);
                x.change(owner, 4, what, was);
                C.holds(call + ", all else is as it was", Seen.by(x).equals(Seen.by(States.full())));
            }
        }
    }

    // ---- promise 5: set

    private static void set() {
        int[] parts = {Integer.MIN_VALUE, -1, 0, 100, 101, Integer.MAX_VALUE};
        for (int part : parts) {
            READY.due("set: PART " + part, x -> x.set(0, part), -1);
        }
        for (int outside : Beyond.NUMBERS) {
            READY.due("set: OUTSIDE " + outside, x -> x.set(1, outside), -1);
        }
        for (int loss : Beyond.from0To(99)) {
            READY.due("set: LOSS of OWNER 0 " + loss, x -> x.set(2, loss), -1);
            READY.due("set: LOSS of OWNER 1 " + loss, x -> x.set(3, loss), -1);
        }
        for (int what : Beyond.from0To(3)) {
            READY.due("set: what " + what, x -> x.set(what, 50), -1);
        }
    }

    private static void setToTheEnds() {
        int[] least = {1, 0, 0, 0};
        int[] greatest = {99, 999, 99, 99};
        int[] first = {50, 0, 1, 1};
        for (int what = 0; what <= 3; what++) {
            MillPaper x = new MillPaper();
            C.due("set: the least of " + what, x.set(what, least[what]), first[what]);
            C.due("set: the greatest of " + what, x.set(what, greatest[what]), least[what]);
            C.due("set: the same of " + what, x.set(what, greatest[what]), greatest[what]);
            for (int other = 0; other <= 3; other++) {
                if (other != what) {
                    C.due("set: " + what + " isn't " + other, x.set(other, first[other]), first[other]);
                }
            }
        }
    }

    private static void partsTogether() {
        MillPaper x = new MillPaper();
        for (int part = 1; part <= 99; part++) {
            x.set(0, part);
            C.due("set: PART of OWNER 1 beside " + part, x.count(5), 100 - part);
        }
    }

    public static void main(String[] args) {
        objectsAreApart();
        newHoldsNothing();
        leastAndGreatestSign();
        outOfRange("", NEW);
        outOfRange(", ahead of CHANCES above 100", READY);
        outOfRange(", ahead of no room", FULL);
        chancesTogether();
        room();
        of();
        signsOfTheOtherOne();
        change();
        changedNumbers();
        set();
        setToTheEnds();
        partsTogether();
        C.end();
    }
}
