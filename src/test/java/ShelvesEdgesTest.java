/** Promises 29 to 35, at the edges that their sentences name: each refusal alone, which comes first, and that nothing changes. */
public final class ShelvesEdgesTest {
    private static final Checks C = new Checks();
    private static final Unchanged NEW = new Unchanged(C, MillPaper::new);
    private static final Unchanged READY = new Unchanged(C, States::ready);
    private static final int[] WILD = {Integer.MIN_VALUE, -1, 0, 1, 8, 1000, Integer.MAX_VALUE};
    private static final int ARGUMENT = -1;
    private static final int STATE = -2;
    private static final int SEALED = States.SEALED;
    private static final int BIDS = States.BIDS;
    private static final int KINDS = States.KINDS;
    private static final int INTS = States.INTS;
    private static final int NOTHING = States.NOTHING;

    // ---- promise 29: keep

    /** Refused where nothing, a PAPER or a ROW is held: it stays so. */
    private static void refusedKeeps(int d) {
        String where = " in SHELF " + d;
        for (int kind : Beyond.from0To(7)) {
            READY.due("keep: KIND " + kind + where, x -> x.keep(d, 1, kind, 5), -1);
        }
        for (int figure : Beyond.NUMBERS) {
            READY.due("keep: FIGURE " + figure + where, x -> x.keep(d, 1, 0, figure), -1);
        }
        for (int what : Beyond.from0To(1)) {
            READY.due("keep: what " + what + where, x -> x.keep(d, what, 0, 0), -1);
        }
    }

    private static void keep() {
        for (int d : Beyond.SHELVES) {
            READY.due("keep: SHELF " + d, x -> x.keep(d, 1, 0, 0), -1);
            READY.due("keep: nothing in SHELF " + d, x -> x.keep(d, 0, 0, 0), -1);
            NEW.due("keep: SHELF " + d + " of a new object", x -> x.keep(d, 1, 7, 999), -1);
        }
        for (int d = 0; d < 8; d++) {
            for (int other : WILD) {
                MillPaper x = States.ready();
                C.due("keep: nothing, the others do not matter", x.keep(d, 0, other, other), 0);
                C.due("keep: nothing is in SHELF " + d, x.weight(d), -11);
                C.due("keep: the next SHELF is as it was", x.weight((d + 1) % 8), States.ready().weight((d + 1) % 8));
            }
        }
        int[] leastWeights = {1, 1, 3, 3, 51, 2, 8, 5};
        int[] greatestWeights = {1, 1000, 3, 102, 51, 2000, 8, 5};
        for (int kind = 0; kind <= 7; kind++) {
            MillPaper x = States.ready();
            C.due("keep: KIND " + kind + ", FIGURE 0", x.keep(7, 1, kind, 0), 0);
            C.due("keep: its WEIGHT", x.weight(7), leastWeights[kind]);
            C.due("keep: KIND " + kind + ", FIGURE 999, for a ROW", x.keep(BIDS, 1, kind, 999), 0);
            C.due("keep: its WEIGHT", x.weight(BIDS), greatestWeights[kind]);
            C.due("keep: the ROW is gone", thrown(x, BIDS, 0), STATE);
            C.due("keep: for a PAPER", x.keep(BIDS, 1, 7 - kind, 0), 0);
            C.due("keep: its WEIGHT", x.weight(BIDS), leastWeights[7 - kind]);
        }
    }

    // ---- promise 30: row

    private static void refusedRows(int d) {
        String where = " in SHELF " + d;
        for (int sort : Beyond.from0To(2)) {
            READY.due("row: SORT " + sort + where, x -> x.row(d, sort, 5), -1);
            READY.due("row: SORT " + sort + ", ahead of a size below 0" + where, x -> x.row(d, sort, -1), -1);
        }
        for (int k = 0; k <= 2; k++) {
            int sort = k;
            READY.due("row: 101 of SORT " + k + where, x -> x.row(d, sort, 101), -1);
            READY.due("row: the most of SORT " + k + where, x -> x.row(d, sort, Integer.MAX_VALUE), -1);
            READY.due("row: -1 of SORT " + k + where, x -> x.row(d, sort, -1), -14);
            READY.due("row: the least of SORT " + k + where, x -> x.row(d, sort, Integer.MIN_VALUE), -14);
        }
    }

    private static void row() {
        for (int d : Beyond.SHELVES) {
            READY.due("row: SHELF " + d, x -> x.row(d, 0, 5), -1);
            READY.due("row: SHELF " + d + ", ahead of a size below 0", x -> x.row(d, 0, -1), -1);
        }
        for (int sort = 0; sort <= 2; sort++) {
            for (int d = 0; d < 8; d++) {
                MillPaper x = States.ready();
                C.due("row: 100 in SHELF " + d, x.row(d, sort, 100), 0);
                C.due("row: no PAPER", x.weight(d), -12);
                for (int i = 0; i < 100; i++) {
                    C.due("row: element " + i, x.element(d, i), 0);
                }
                C.due("row: no element 100", thrown(x, d, 100), STATE);
                C.due("row: none in SHELF " + d, x.row(d, sort, 0), 0);
                C.due("row: no element 0", thrown(x, d, 0), STATE);
                C.due("row: no place 0", x.put(d, 0, 1), -13);
                C.due("row: still a ROW", x.weight(d), -12);
                C.due("row: one in SHELF " + d, x.row(d, sort, 1), 0);
                C.due("row: its element", x.element(d, 0), 0);
                C.due("row: no element 1", thrown(x, d, 1), STATE);
            }
        }
    }

    // ---- promise 31: put

    private static void refusedPuts() {
        for (int i : WILD) {
            for (int d : Beyond.SHELVES) {
                READY.due("put: SHELF " + d + ", place " + i, x -> x.put(d, i, 5), -1);
            }
            READY.due("put: nothing is held, place " + i, x -> x.put(NOTHING, i, 5), -11);
            READY.due("put: a PAPER, place " + i, x -> x.put(SEALED, i, 5), -12);
        }
        for (int place : Beyond.from0To(5)) {
            READY.due("put: place " + place + " of six", x -> x.put(BIDS, place, 5), -13);
        }
        for (int place : Beyond.from0To(2)) {
            READY.due("put: place " + place + " of three bytes", x -> x.put(KINDS, place, 5), -13);
            READY.due("put: place " + place + " of three ints", x -> x.put(INTS, place, 5), -13);
        }
    }

    private static void kept(int sort, int v, int kept) {
        MillPaper x = new MillPaper();
        x.row(7, sort, 100);
        C.due("put: " + v + " in SORT " + sort, x.put(7, 99, v), 0);
        C.due("put: what is kept of " + v + " in SORT " + sort, x.element(7, 99), kept);
        C.due("put: no other element", x.element(7, 98), 0);
        C.due("put: " + v + " at the first place", x.put(7, 0, v), 0);
        C.due("put: what is kept of " + v + " at the first place", x.element(7, 0), kept);
        C.due("put: over it", x.put(7, 0, 1), 0);
        C.due("put: what is there now", x.element(7, 0), 1);
    }

    private static void lowestBits() {
        int[] puts = {0, -1, 127, 128, -128, -129, 255, 256, 384, Integer.MAX_VALUE, Integer.MIN_VALUE};
        int[] bytes = {0, -1, 127, -128, -128, 127, -1, 0, -128, -1, 0};
        for (int k = 0; k < puts.length; k++) {
            kept(0, puts[k], bytes[k]);
        }
        int[] morePuts = {0, -1, 128, 32767, 32768, -32768, -32769, 65535, 65536, Integer.MAX_VALUE, Integer.MIN_VALUE};
        int[] shorts = {0, -1, 128, 32767, -32768, -32768, 32767, -1, 0, -1, 0};
        for (int k = 0; k < morePuts.length; k++) {
            kept(1, morePuts[k], shorts[k]);
            kept(2, morePuts[k], morePuts[k]);
        }
    }

    // ---- promise 32: element

    private static int thrown(MillPaper x, int d, int i) {
        try {
            x.element(d, i);
            return 0;
        } catch (IllegalArgumentException noShelf) {
            return ARGUMENT;
        } catch (IllegalStateException noElement) {
            return STATE;
        }
    }

    private static void elements() {
        for (int i : WILD) {
            for (int d : Beyond.SHELVES) {
                READY.due("element: SHELF " + d + ", place " + i, x -> thrown(x, d, i), ARGUMENT);
                NEW.due("element: SHELF " + d + " of a new object", x -> thrown(x, d, i), ARGUMENT);
            }
            READY.due("element: nothing is held, place " + i, x -> thrown(x, NOTHING, i), STATE);
            READY.due("element: a PAPER, place " + i, x -> thrown(x, SEALED, i), STATE);
        }
        for (int place : Beyond.from0To(5)) {
            READY.due("element: place " + place + " of six", x -> thrown(x, BIDS, place), STATE);
        }
        READY.due("element: the first one", x -> x.element(BIDS, 0), 100);
        READY.due("element: the last one", x -> x.element(BIDS, 5), 300);
        READY.due("element: the greatest int", x -> x.element(INTS, 0), Integer.MAX_VALUE);
        READY.due("element: the least int", x -> x.element(INTS, 1), Integer.MIN_VALUE);
    }

    // ---- promise 33: copy

    private static void refusedCopies() {
        for (int k : WILD) {
            for (int d : Beyond.SHELVES) {
                READY.due("copy: SHELF d " + d, x -> x.copy(d, k, BIDS, k, k), -1);
                READY.due("copy: SHELF e " + d, x -> x.copy(BIDS, k, d, k, k), -1);
                READY.due("copy: SHELF d " + d + ", ahead of nothing", x -> x.copy(d, k, NOTHING, k, k), -1);
                READY.due("copy: SHELF e " + d + ", ahead of nothing", x -> x.copy(NOTHING, k, d, k, k), -1);
                READY.due("copy: SHELF e " + d + ", ahead of a PAPER", x -> x.copy(SEALED, k, d, k, k), -1);
            }
            READY.due("copy: from nothing", x -> x.copy(NOTHING, k, BIDS, k, k), -11);
            READY.due("copy: to nothing", x -> x.copy(BIDS, k, NOTHING, k, k), -11);
            READY.due("copy: from nothing to nothing", x -> x.copy(NOTHING, k, NOTHING, k, k), -11);
            READY.due("copy: from nothing, ahead of a PAPER", x -> x.copy(NOTHING, k, SEALED, k, k), -11);
            READY.due("copy: to nothing, ahead of a PAPER", x -> x.copy(SEALED, k, NOTHING, k, k), -11);
            READY.due("copy: from a PAPER", x -> x.copy(SEALED, k, BIDS, k, k), -12);
            READY.due("copy: to a PAPER", x -> x.copy(BIDS, k, SEALED, k, k), -12);
            READY.due("copy: from a PAPER to a PAPER", x -> x.copy(SEALED, k, SEALED, k, k), -12);
            READY.due("copy: from shorts to bytes", x -> x.copy(BIDS, k, KINDS, k, k), -12);
            READY.due("copy: from bytes to ints", x -> x.copy(KINDS, k, INTS, k, k), -12);
            READY.due("copy: from ints to shorts", x -> x.copy(INTS, k, BIDS, k, k), -12);
        }
    }

    /** SHELF 7 has eight bytes 1 .. 8, SHELF 6 four bytes. */
    private static MillPaper bytes() {
        MillPaper x = States.ready();
        States.putRow(x, 7, 0, 1, 2, 3, 4, 5, 6, 7, 8);
        States.putRow(x, 6, 0, 21, 22, 23, 24);
        return x;
    }

    private static void noPlaces() {
        Unchanged state = new Unchanged(C, ShelvesEdgesTest::bytes);
        int max = Integer.MAX_VALUE;
        int min = Integer.MIN_VALUE;
        int[][] calls = {
            {-1, 0, 1}, {0, -1, 1}, {0, 0, -1}, {min, 0, 1}, {0, min, 1}, {0, 0, min}, {-1, 0, 0}, {0, -1, 0},
            {8, 0, 1}, {0, 4, 1}, {5, 0, 4}, {0, 1, 4}, {0, 0, 5}, {4, 0, 5}, {9, 0, 0}, {0, 5, 0}, {max, 0, 0},
            {0, max, 0}, {max, 0, 1}, {0, max, 1}, {0, 0, max}, {1, 1, max}, {max, max, max}, {max, max, 2},
            {min, min, min}, {-1, -1, -1}, {-1, 0, 2}, {0, -1, 2}, {4, 4, max - 3}, {2, 2, -2}, {-4, 0, 4}
        };
        for (int[] call : calls) {
            state.due("copy: from " + call[0] + ", to " + call[1] + ", " + call[2] + " elements",
                x -> x.copy(7, call[0], 6, call[1], call[2]), -13);
        }
        int[][] inOneRow = {{8, 0, 1}, {0, 8, 1}, {0, 0, 9}, {0, 1, 8}, {1, 0, 8}, {0, 0, -1}, {0, 9, 0}, {7, 7, 2}};
        for (int[] call : inOneRow) {
            state.due("copy: in one ROW from " + call[0] + " to " + call[1] + ", " + call[2] + " elements",
                x -> x.copy(7, call[0], 7, call[1], call[2]), -13);
        }
    }

    private static void copied(String call, int i, int e, int j, int n, int... due) {
        MillPaper x = bytes();
        C.due("copy: " + call, x.copy(7, i, e, j, n), n);
        for (int k = 0; k < due.length; k++) {
            C.due("copy: " + call + ", element " + k, x.element(e, k), due[k]);
        }
        for (int k = 0; e != 7 && k < 8; k++) {
            C.due("copy: " + call + ", it is as it was, element " + k, x.element(7, k), k + 1);
        }
    }

    private static void copies() {
        copied("as many as there is room for", 0, 6, 0, 4, 1, 2, 3, 4);
        copied("to the last ones of both", 5, 6, 1, 3, 21, 6, 7, 8);
        copied("just the last one to the last", 7, 6, 3, 1, 21, 22, 23, 8);
        copied("none", 0, 6, 0, 0, 21, 22, 23, 24);
        copied("none at both ends", 8, 6, 4, 0, 21, 22, 23, 24);
        copied("all on itself", 0, 7, 0, 8, 1, 2, 3, 4, 5, 6, 7, 8);
        copied("up in one ROW", 0, 7, 1, 7, 1, 1, 2, 3, 4, 5, 6, 7);
        copied("down in one ROW", 1, 7, 0, 7, 2, 3, 4, 5, 6, 7, 8, 8);
        copied("a half on the other", 0, 7, 4, 4, 1, 2, 3, 4, 1, 2, 3, 4);
        copied("none in one ROW", 8, 7, 8, 0, 1, 2, 3, 4, 5, 6, 7, 8);
        for (int sort = 0; sort <= 2; sort++) {
            MillPaper x = new MillPaper();
            x.row(0, sort, 100);
            x.row(7, sort, 100);
            x.put(0, 0, -5);
            x.put(0, 99, 99);
            C.due("copy: a hundred of SORT " + sort, x.copy(0, 0, 7, 0, 100), 100);
            C.due("copy: the first of a hundred", x.element(7, 0), -5);
            C.due("copy: the last of a hundred", x.element(7, 99), 99);
            C.due("copy: a hundred and one", x.copy(0, 0, 7, 0, 101), -13);
            x.put(7, 0, 6);
            C.due("copy: the ROWS are apart", x.element(0, 0), -5);
            x.row(7, sort, 0);
            C.due("copy: none to a ROW of none", x.copy(0, 100, 7, 0, 0), 0);
            C.due("copy: one to a ROW of none", x.copy(0, 0, 7, 0, 1), -13);
            C.due("copy: one from a ROW of none", x.copy(7, 0, 0, 0, 1), -13);
        }
    }

    // ---- promises 34 and 35: weight and toss

    private static void refusedWeights() {
        for (int d : Beyond.SHELVES) {
            READY.due("weight: SHELF " + d, x -> x.weight(d), -1);
            READY.due("toss: SHELF " + d, x -> x.toss(d), -1);
        }
        READY.due("weight: nothing is held", x -> x.weight(NOTHING), -11);
        READY.due("toss: nothing is held", x -> x.toss(NOTHING), -11);
        int[] rows = {BIDS, KINDS, INTS};
        for (int d : rows) {
            READY.due("weight: a ROW", x -> x.weight(d), -12);
            READY.due("toss: a ROW", x -> x.toss(d), -12);
        }
    }

    private static MillPaper paper(int kind, int figure) {
        MillPaper x = States.ready();
        x.keep(7, 1, kind, figure);
        return x;
    }

    private static void weighed(int figure, int... due) {
        for (int kind = 0; kind <= 7; kind++) {
            C.due("weight: KIND " + kind + ", FIGURE " + figure, paper(kind, figure).weight(7), due[kind]);
        }
    }

    private static void tossed(int figure, int... due) {
        for (int k = 0; k <= 7; k++) {
            int kind = k;
            String call = "toss: KIND " + k + ", FIGURE " + figure;
            Unchanged state = new Unchanged(C, () -> paper(kind, figure));
            state.due(call, x -> x.toss(7), due[kind]);
            state.due(call + ", and again", x -> x.toss(7) - x.toss(7), 0);
        }
    }

    private static void weightsAndFailures() {
        weighed(0, 1, 1, 3, 3, 51, 2, 8, 5);
        weighed(1, 1, 2, 3, 3, 51, 4, 8, 5);
        weighed(9, 1, 10, 3, 3, 51, 20, 8, 5);
        weighed(10, 1, 11, 3, 4, 51, 22, 8, 5);
        weighed(999, 1, 1000, 3, 102, 51, 2000, 8, 5);
        tossed(0, -15, -15, -15, -15, -15, -15, -15, -15);
        tossed(1, 1, 1, 1, 1001, -15, 1, 2008, 1);
        tossed(999, 999, 999, 999, 1999, -15, 999, 2008, 999);
    }

    /** The 512 calls that an object is used for, each with something that is made. */
    private static void allCalls() {
        MillPaper x = new MillPaper();
        for (int call = 0; call < 511; call++) {
            int d = call % 8;
            C.due("row: call " + call, call % 3 == 0 ? x.keep(d, 1, d, 999) : x.row(d, call % 3, 100), 0);
        }
        C.due("row: what came last, in call 510", x.weight(510 % 8), 8);
    }

    public static void main(String[] args) {
        refusedKeeps(NOTHING);
        refusedKeeps(SEALED);
        refusedKeeps(BIDS);
        keep();
        refusedRows(NOTHING);
        refusedRows(SEALED);
        refusedRows(BIDS);
        row();
        refusedPuts();
        lowestBits();
        elements();
        refusedCopies();
        noPlaces();
        copies();
        refusedWeights();
        weightsAndFailures();
        allCalls();
        C.end();
    }
}
