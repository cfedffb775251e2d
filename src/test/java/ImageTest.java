/** Promises 26 to 28: image, restore, count. */
public final class ImageTest {
    private static final Checks C = new Checks();

    private static void all() {
        MillPaper x = new MillPaper();
        C.due("restore: there is none", x.restore(), -3);
        x.sign(0, 60, 11, 12);
        x.sign(0, 40, 13, 14);
        x.sign(1, 30, 15, 16);
        x.set(0, 20);
        x.set(1, 30);
        x.set(2, 40);
        x.set(3, 50);
        x.piece(5, 9);
        x.piece(6, 4);
        x.keep(0, 1, 1, 77);
        C.due("image", x.image(), 3);
        C.due("image: nothing changes", x.count(0), 2);
        x.sign(1, 70, 17, 18);
        x.change(0, 0, 1, 999);
        x.change(0, 0, 2, 998);
        x.set(0, 21);
        x.set(1, 31);
        x.set(2, 41);
        x.set(3, 51);
        x.piece(99, 99);
        x.keep(0, 1, 1, 78);
        x.row(1, 0, 5);
        C.due("restore", x.restore(), 3);
        C.due("restore: SIGNS of 0", x.count(0), 2);
        C.due("restore: SIGNS of 1", x.count(1), 1);
        C.due("restore: CHANCES of 0", x.count(2), 100);
        C.due("restore: CHANCES of 1", x.count(3), 30);
        C.due("restore: PIECES", x.count(4), 2);
        C.due("restore: PART of 1", x.count(5), 80);
        C.due("restore: WORTH", x.of(0, 0, 1), 11);
        C.due("restore: COIN", x.of(0, 0, 2), 12);
        C.due("restore: CHANCE", x.of(1, 0, 0), 30);
        C.due("restore: no such SIGN", x.of(1, 1, 0), -1);
        C.due("restore: the cut", x.cut(0, 1), 6);
        C.due("restore: SHELVES are not of it", x.toss(0), 78);
        C.due("restore: nor are ROWS", x.element(1, 4), 0);
        C.due("restore: PART", x.set(0, 1), 20);
        C.due("restore: OUTSIDE", x.set(1, 1), 30);
        C.due("restore: LOSS of 0", x.set(2, 1), 40);
        C.due("restore: LOSS of 1", x.set(3, 1), 50);
        C.due("restore: a SIGN comes anew", x.sign(1, 70, 1, 2), 1);
        C.due("restore: a PIECE comes anew", x.piece(1, 1), 2);
        C.due("restore: once more", x.restore(), 3);
        C.due("restore: once more, PART", x.count(5), 80);
        C.due("restore: once more, SIGNS of 1", x.count(1), 1);
    }

    private static void another() {
        MillPaper x = new MillPaper();
        C.due("image: of nothing", x.image(), 0);
        x.sign(0, 100, 1, 1);
        C.due("restore: nothing", x.restore(), 0);
        C.due("restore: no SIGNS", x.count(0), 0);
        C.due("restore: CHANCES", x.count(2), 0);
        x.sign(1, 5, 1, 1);
        C.due("image: the newer one counts", x.image(), 1);
        x.sign(1, 5, 1, 1);
        C.due("restore: the newer one", x.restore(), 1);
        C.due("restore: its SIGNS", x.count(1), 1);
    }

    private static void count() {
        MillPaper x = new MillPaper();
        x.sign(0, 60, 11, 12);
        x.sign(0, 39, 11, 12);
        x.sign(1, 1, 11, 12);
        x.piece(1, 2);
        x.set(0, 99);
        long[] due = {2, 1, 99, 1, 1, 1};
        for (int what = 0; what < due.length; what++) {
            C.due("count(" + what + ")", x.count(what), due[what]);
        }
        C.due("count(-1)", x.count(-1), -1);
        C.due("count(6)", x.count(6), -1);
        C.due("count(the least int)", x.count(Integer.MIN_VALUE), -1);
    }

    public static void main(String[] args) {
        all();
        another();
        count();
        C.end();
    }
}
