/** Objects in states from which a refusal is told, or something is asked. */
final class States {
    /** The SHELVES of an object with three SIGNS of each. */
    static final int SEALED = 0;
    static final int BIDS = 1;
    static final int KINDS = 2;
    static final int THIRD = 3;
    static final int INTS = 4;
    static final int OUTSIDE = 5;
    static final int NAME = 6;
    static final int NOTHING = 7;

    private States() {
    }

    /** Three SIGNS of each, PIECES, SHELVES and an IMAGE that is another than what there is. */
    static MillPaper ready() {
        return threeSigns(60, 50);
    }

    /** As ready(), but that OWNER 0's CHANCES are 99. */
    static MillPaper zeroUnready() {
        return threeSigns(59, 50);
    }

    /** As ready(), but that OWNER 1's CHANCES are 99. */
    static MillPaper oneUnready() {
        return threeSigns(60, 49);
    }

    private static MillPaper threeSigns(int lastOfZero, int lastOfOne) {
        MillPaper x = new MillPaper();
        x.sign(0, 7, 8, 9);
        x.sign(1, 10, 11, 12);
        x.set(0, 13);
        x.set(1, 14);
        x.set(2, 15);
        x.set(3, 16);
        x.piece(17, 18);
        x.image();
        x.change(0, 0, 1, 150);
        x.change(0, 0, 2, 999);
        x.sign(0, 33, 200, 300);
        x.sign(0, lastOfZero, 100, 300);
        x.change(1, 0, 1, 120);
        x.change(1, 0, 2, 999);
        x.sign(1, 40, 150, 300);
        x.sign(1, lastOfOne, 250, 300);
        x.set(0, 40);
        x.set(1, 120);
        x.set(2, 7);
        x.set(3, 9);
        x.piece(50, 10);
        x.piece(30, 40);
        x.keep(SEALED, 1, 2, 5);
        putRow(x, BIDS, 1, 100, 150, 200, 50, 250, 300);
        putRow(x, KINDS, 0, 0, 6, 2);
        x.keep(THIRD, 1, 6, 150);
        putRow(x, INTS, 2, Integer.MAX_VALUE, Integer.MIN_VALUE, -1);
        x.keep(OUTSIDE, 1, 4, 20);
        x.keep(NAME, 1, 1, 70);
        return x;
    }

    /** Five SIGNS of each, all their places taken, worth 100 .. 500 and 150 .. 550, and eight PIECES; no IMAGE. */
    static MillPaper full() {
        MillPaper x = new MillPaper();
        for (int s = 1; s <= 5; s++) {
            x.sign(0, 20, 100 * s, 999);
            x.sign(1, 20, 100 * s + 50, 999);
        }
        for (int k = 0; k < 8; k++) {
            x.piece(10 + k, 20 - k);
        }
        x.keep(SEALED, 1, 2, 5);
        return x;
    }

    /** Two SIGNS of each, the second ones with little COIN: one can buy at 200 and 20, one at 400 and 40. */
    static MillPaper coins() {
        MillPaper x = new MillPaper();
        x.sign(0, 50, 300, 100);
        x.sign(0, 50, 100, 10);
        x.sign(1, 50, 400, 200);
        x.sign(1, 50, 200, 20);
        return x;
    }

    static MillPaper oneOfEach(int worth0, int coin0, int worth1, int coin1) {
        MillPaper x = new MillPaper();
        x.sign(0, 100, worth0, coin0);
        x.sign(1, 100, worth1, coin1);
        return x;
    }

    static void putRow(MillPaper x, int d, int sort, int... elements) {
        x.row(d, sort, elements.length);
        for (int i = 0; i < elements.length; i++) {
            x.put(d, i, elements[i]);
        }
    }
}
