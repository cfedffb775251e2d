import java.util.List;

/** Promises 26 to 28, at the edges that their sentences name. */
public final class ImageEdgesTest {
    private static final Checks C = new Checks();
    private static final Unchanged NEW = new Unchanged(C, MillPaper::new);
    private static final Unchanged READY = new Unchanged(C, States::ready);
    private static final Unchanged FULL = new Unchanged(C, States::full);

    // ---- promises 26 and 27: image and restore

    private static void none() {
        NEW.due("restore: there is none", x -> x.restore(), -3);
        FULL.due("restore: there is none, five SIGNS of each", x -> x.restore(), -3);
        MillPaper x = States.full();
        x.restore();
        C.due("restore: refused, and refused again", x.restore(), -3);
        C.due("image: behind a refused one", x.image(), 10);
        C.due("restore: there is one now", x.restore(), 10);
    }

    private static void changeAll(MillPaper x, int owner) {
        for (int s = 0; s < x.count(owner); s++) {
            x.change(owner, s, 1, 777 - s);
            x.change(owner, s, 2, 666 - s);
        }
    }

    /** Five SIGNS of each and eight PIECES, the most that an IMAGE holds. */
    private static void fullImage() {
        MillPaper x = States.full();
        C.due("image: ten SIGNS", x.image(), 10);
        changeAll(x, 0);
        changeAll(x, 1);
        x.set(0, 1);
        x.set(1, 999);
        x.set(2, 99);
        x.set(3, 99);
        C.due("restore: ten SIGNS", x.restore(), 10);
        MillPaper y = States.full();
        y.image();
        C.holds("restore: all is as it was", Seen.by(x).equals(Seen.by(y)));
    }

    /** What came behind the IMAGE is gone, to the last SIGN and PIECE. */
    private static void backToNothing() {
        MillPaper x = new MillPaper();
        C.due("image: no SIGNS", x.image(), 0);
        for (int s = 0; s < 5; s++) {
            x.sign(0, 20, 1, 2);
            x.sign(1, 20, 3, 4);
        }
        for (int k = 0; k < 8; k++) {
            x.piece(99, 98);
        }
        x.set(0, 99);
        x.set(1, 999);
        x.set(2, 0);
        x.set(3, 0);
        C.due("restore: no SIGNS", x.restore(), 0);
        MillPaper y = new MillPaper();
        y.image();
        C.holds("restore: all is as if new", Seen.by(x).equals(Seen.by(y)));
        MillPaper z = new MillPaper();
        z.image();
        z.piece(99, 98);
        z.restore();
        z.piece(5, 0);
        z.piece(7, 0);
        C.due("restore: the PIECES are new ones", z.cut(0, 1), 12);
    }

    /** All comes back, though there are fewer SIGNS and PIECES than in the IMAGE of another time. */
    private static void fewerAndMore() {
        MillPaper x = States.ready();
        C.due("restore: one SIGN of each", x.restore(), 2);
        C.due("restore: PIECES", x.count(4), 1);
        C.due("restore: PART of OWNER 1", x.count(5), 87);
        C.due("restore: WORTH", x.of(0, 0, 1), 8);
        C.due("restore: COIN", x.of(1, 0, 2), 12);
        C.due("restore: CHANCES of OWNER 0", x.count(2), 7);
        C.due("restore: CHANCES of OWNER 1", x.count(3), 10);
        C.due("restore: OUTSIDE", x.set(1, 0), 14);
        C.due("restore: LOSS of OWNER 0", x.set(2, 0), 15);
        C.due("restore: LOSS of OWNER 1", x.set(3, 0), 16);
        C.due("restore: what the PIECE is WORTH", x.cut(0, 1) + x.cut(1, 1), 0);
        C.due("restore: there is room for the CHANCES", x.sign(0, 93, 1, 1), 1);
        C.due("restore: not for more", x.sign(0, 1, 1, 1), -3);
    }

    /** What is done behind it never reaches the IMAGE, nor does what is asked. */
    private static void imageStays() {
        MillPaper x = States.ready();
        x.image();
        MillPaper y = States.ready();
        y.image();
        List<Long> due = Seen.by(y);
        for (int time = 0; time < 3; time++) {
            changeAll(x, time % 2);
            x.set(time, 1);
            x.piece(1, 1);
            C.due("restore: time " + time, x.restore(), 6);
            x.purse(0, 1);
            x.edge(0, 1, 2, 0);
            x.edge(1, 1, 2, 0);
            x.waits(60, 0);
            C.due("restore: after questions, time " + time, x.restore(), 6);
        }
        C.holds("restore: the IMAGE is the same at each time", Seen.by(x).equals(due));
    }

    private static void newerImage() {
        MillPaper x = States.ready();
        C.due("image: a newer one", x.image(), 6);
        x.change(0, 0, 1, 1);
        C.due("restore: the newer one", x.restore(), 6);
        C.due("restore: the older one is gone", x.of(0, 0, 1), 150);
        x.change(0, 0, 1, 2);
        x.image();
        x.change(0, 0, 1, 3);
        x.restore();
        C.due("restore: the newest one", x.of(0, 0, 1), 2);
    }

    private static void imageChangesNothing() {
        MillPaper x = States.full();
        MillPaper y = States.full();
        x.image();
        for (int what = 0; what <= 5; what++) {
            C.due("image: count(" + what + ")", x.count(what), y.count(what));
        }
        C.due("image: BEST PRICE", x.bestPrice(0, 3), y.bestPrice(0, 3));
        C.due("image: SHELF 0", x.weight(0), 3);
    }

    private static void shelvesAreApart() {
        MillPaper x = States.ready();
        x.image();
        x.keep(0, 1, 6, 9);
        x.keep(1, 0, 0, 0);
        x.put(2, 0, 7);
        x.row(3, 2, 1);
        x.keep(7, 1, 4, 0);
        x.restore();
        C.due("restore: a PAPER for a PAPER stays", x.toss(0), 2008);
        C.due("restore: nothing for a ROW stays", x.weight(1), -11);
        C.due("restore: an element stays", x.element(2, 0), 7);
        C.due("restore: a ROW for a PAPER stays", x.element(3, 0), 0);
        C.due("restore: a PAPER where nothing was stays", x.weight(7), 51);
    }

    // ---- promise 28: count

    private static void counts() {
        int[] whats = {Integer.MIN_VALUE, -1, 6, 7, Integer.MAX_VALUE};
        for (int what : whats) {
            READY.due("count: what " + what, x -> x.count(what), -1);
            NEW.due("count: what " + what + ", nothing is there", x -> x.count(what), -1);
        }
        int[] full = {5, 5, 100, 100, 8, 50};
        int[] ready = {3, 3, 100, 100, 3, 60};
        int[] empty = {0, 0, 0, 0, 0, 50};
        for (int k = 0; k <= 5; k++) {
            int what = k;
            FULL.due("count: what " + k + ", all places are taken", x -> x.count(what), full[what]);
            READY.due("count: what " + k, x -> x.count(what), ready[what]);
            NEW.due("count: what " + k + ", nothing is there", x -> x.count(what), empty[what]);
        }
        C.due("count: CHANCES of OWNER 0 are 99", States.zeroUnready().count(2), 99);
        C.due("count: CHANCES of OWNER 1 are 99", States.oneUnready().count(3), 99);
        MillPaper x = new MillPaper();
        x.set(0, 99);
        C.due("count: the least PART of OWNER 1", x.count(5), 1);
        x.set(0, 1);
        C.due("count: the greatest PART of OWNER 1", x.count(5), 99);
    }

    public static void main(String[] args) {
        none();
        fullImage();
        backToNothing();
        fewerAndMore();
        imageStays();
        newerImage();
        imageChangesNothing();
        shelvesAreApart();
        counts();
        C.end();
    }
}
