/** Promises 29 to 35: keep, row, put, element, copy, weight, toss. */
public final class ShelvesTest {
    private static final Checks C = new Checks();

    private static void keep() {
        MillPaper x = new MillPaper();
        C.due("keep: a PAPER", x.keep(7, 1, 7, 999), 0);
        C.due("keep: its WEIGHT", x.weight(7), 5);
        C.due("keep: nothing, the others do not matter", x.keep(7, 0, -5, 5000), 0);
        C.due("keep: nothing is there", x.weight(7), -11);
        C.due("keep: nothing where nothing is", x.keep(7, 0, 0, 0), 0);
        x.row(0, 0, 1);
        C.due("keep: a PAPER for a ROW", x.keep(0, 1, 0, 0), 0);
        C.due("keep: the ROW is gone", x.put(0, 0, 1), -12);
        C.due("keep: shelf 8", x.keep(8, 1, 0, 0), -1);
        C.due("keep: shelf -1", x.keep(-1, 0, 0, 0), -1);
        C.due("keep: what 2", x.keep(0, 2, 1, 0), -1);
        C.due("keep: what -1", x.keep(0, -1, 1, 0), -1);
        C.due("keep: KIND 8", x.keep(0, 1, 8, 0), -1);
        C.due("keep: KIND -1", x.keep(0, 1, -1, 0), -1);
        C.due("keep: FIGURE 1000", x.keep(0, 1, 1, 1000), -1);
        C.due("keep: FIGURE -1", x.keep(0, 1, 1, -1), -1);
        C.due("keep: the PAPER is as it was", x.weight(0), 1);
    }

    private static int thrown(MillPaper x, int d, int i) {
        try {
            x.element(d, i);
            return 0;
        } catch (IllegalArgumentException e) {
            return 1;
        } catch (IllegalStateException e) {
            return 2;
        }
    }

    private static void rows() {
        MillPaper x = new MillPaper();
        C.due("row: shelf 8", x.row(8, 0, 1), -1);
        C.due("row: SORT 3", x.row(0, 3, 1), -1);
        C.due("row: SORT -1, ahead of below 0", x.row(0, -1, -1), -1);
        C.due("row: 101", x.row(0, 0, 101), -1);
        C.due("row: below 0", x.row(0, 0, -1), -14);
        C.due("row: nothing came", x.weight(0), -11);
        C.due("row: 100", x.row(0, 0, 100), 0);
        C.due("row: the last element", x.element(0, 99), 0);
        C.due("element: behind the last", thrown(x, 0, 100), 2);
        C.due("row: none", x.row(0, 0, 0), 0);
        C.due("element: of none", thrown(x, 0, 0), 2);
        x.keep(1, 1, 0, 5);
        C.due("row: for a PAPER", x.row(1, 2, 2), 0);
        C.due("row: the PAPER is gone", x.weight(1), -12);
        x.put(1, 1, 5);
        x.row(1, 2, 2);
        C.due("row: anew all are 0", x.element(1, 1), 0);
        C.due("element: shelf 8", thrown(x, 8, 0), 1);
        C.due("element: shelf -1", thrown(x, -1, 0), 1);
        C.due("element: nothing", thrown(x, 5, 0), 2);
        x.keep(5, 1, 0, 0);
        C.due("element: a PAPER", thrown(x, 5, 0), 2);
        C.due("element: place -1", thrown(x, 1, -1), 2);
        C.due("element: place 1", thrown(x, 1, 1), 0);
    }

    private static void put() {
        MillPaper x = new MillPaper();
        int[] puts = {127, 128, 255, 256, -129, 32768, 65535, Integer.MAX_VALUE, Integer.MIN_VALUE};
        for (int sort = 0; sort <= 2; sort++) {
            x.row(sort, sort, 2);
            for (int v : puts) {
                C.due("put: " + v, x.put(sort, 1, v), 0);
                C.due("put: its lowest bits", x.element(sort, 1), sort == 0 ? (byte) v : sort == 1 ? (short) v : v);
            }
            C.due("put: no other element", x.element(sort, 0), 0);
        }
        C.due("put: shelf 8", x.put(8, 0, 1), -1);
        C.due("put: nothing", x.put(4, 0, 1), -11);
        x.keep(4, 1, 0, 0);
        C.due("put: a PAPER", x.put(4, 0, 1), -12);
        C.due("put: place -1", x.put(0, -1, 1), -13);
        C.due("put: place 2", x.put(0, 2, 1), -13);
    }

    private static void five(MillPaper x, int d, int sort) {
        x.row(d, sort, 5);
        for (int i = 0; i < 5; i++) {
            x.put(d, i, i + 1);
        }
    }

    private static void holds(String call, MillPaper x, int d, int... due) {
        for (int i = 0; i < due.length; i++) {
            C.due(call + ", element " + i, x.element(d, i), due[i]);
        }
    }

    private static void copy() {
        MillPaper x = new MillPaper();
        five(x, 0, 1);
        x.row(1, 1, 3);
        C.due("copy", x.copy(0, 2, 1, 0, 3), 3);
        holds("copy", x, 1, 3, 4, 5);
        C.due("copy: up in one ROW", x.copy(0, 0, 0, 1, 4), 4);
        holds("copy: up", x, 0, 1, 1, 2, 3, 4);
        five(x, 0, 1);
        C.due("copy: down in one ROW", x.copy(0, 1, 0, 0, 4), 4);
        holds("copy: down", x, 0, 2, 3, 4, 5, 5);
        C.due("copy: none at the end", x.copy(0, 5, 1, 3, 0), 0);
        C.due("copy: none behind the end", x.copy(0, 6, 1, 3, 0), -13);
        C.due("copy: none behind the other end", x.copy(0, 5, 1, 4, 0), -13);
        C.due("copy: below 0", x.copy(0, 0, 1, 0, -1), -13);
        C.due("copy: from -1", x.copy(0, -1, 1, 0, 1), -13);
        C.due("copy: to -1", x.copy(0, 0, 1, -1, 1), -13);
        C.due("copy: too many of them", x.copy(0, 3, 1, 0, 3), -13);
        C.due("copy: too many for it", x.copy(0, 0, 1, 1, 3), -13);
        C.due("copy: far behind", x.copy(0, Integer.MAX_VALUE, 1, 0, Integer.MAX_VALUE), -13);
        holds("copy: refused", x, 1, 3, 4, 5);
        C.due("copy: shelf 8", x.copy(8, 0, 1, 0, 1), -1);
        C.due("copy: to shelf -1", x.copy(0, 0, -1, 0, 1), -1);
        C.due("copy: from nothing", x.copy(5, 0, 1, 0, 1), -11);
        C.due("copy: to nothing", x.copy(0, 0, 5, 0, 1), -11);
        x.keep(2, 1, 0, 0);
        C.due("copy: nothing, ahead of a PAPER", x.copy(2, 0, 5, 0, 1), -11);
        C.due("copy: from a PAPER", x.copy(2, 0, 1, 0, 1), -12);
        C.due("copy: to a PAPER", x.copy(0, 0, 2, 0, 1), -12);
        five(x, 3, 2);
        C.due("copy: another SORT, ahead of no such place", x.copy(3, 9, 0, 0, 1), -12);
    }

    private static void weightAndToss() {
        MillPaper x = new MillPaper();
        int[] weights = {1, 130, 3, 15, 51, 260, 8, 5};
        int[] tosses = {129, 129, 129, 1129, -15, 129, 2008, 129};
        for (int kind = 0; kind <= 7; kind++) {
            x.keep(kind, 1, kind, 129);
            C.due("weight: KIND " + kind, x.weight(kind), weights[kind]);
            C.due("toss: KIND " + kind, x.toss(kind), tosses[kind]);
            C.due("toss: once more, KIND " + kind, x.toss(kind), tosses[kind]);
        }
        for (int kind = 0; kind <= 7; kind++) {
            x.keep(kind, 1, kind, 0);
            C.due("toss: FIGURE 0, KIND " + kind, x.toss(kind), -15);
        }
        int[] atZero = {1, 1, 3, 3, 51, 2, 8, 5};
        for (int kind = 0; kind <= 7; kind++) {
            C.due("weight: FIGURE 0, KIND " + kind, x.weight(kind), atZero[kind]);
        }
        C.due("weight: shelf 8", x.weight(8), -1);
        C.due("toss: shelf -1", x.toss(-1), -1);
        x.keep(0, 0, 0, 0);
        C.due("weight: nothing", x.weight(0), -11);
        C.due("toss: nothing", x.toss(0), -11);
        x.row(0, 0, 1);
        C.due("weight: a ROW", x.weight(0), -12);
        C.due("toss: a ROW", x.toss(0), -12);
    }

    public static void main(String[] args) {
        keep();
        rows();
        put();
        copy();
        weightAndToss();
        C.end();
    }
}
