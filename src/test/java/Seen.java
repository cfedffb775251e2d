import java.util.ArrayList;
import java.util.List;

/** All that an object shows by its face. */
final class Seen {
    private Seen() {
    }

    /** What is in the image is seen too, so that the object is another one behind it. */
    static List<Long> by(MillPaper x) {
        List<Long> seen = new ArrayList<>();
        for (int d = 0; d < 8; d++) {
            addShelf(seen, x, d);
        }
        addMill(seen, x);
        seen.add((long) x.restore());
        addMill(seen, x);
        return seen;
    }

    private static void addMill(List<Long> seen, MillPaper x) {
        for (int what = 0; what <= 5; what++) {
            seen.add((long) x.count(what));
        }
        for (int owner = 0; owner < 2; owner++) {
            for (int sign = 0; sign < x.count(owner); sign++) {
                for (int what = 0; what <= 2; what++) {
                    seen.add((long) x.of(owner, sign, what));
                }
            }
        }
        for (int what = 0; what <= 3; what++) {
            int was = x.set(what, 1);
            x.set(what, was);
            seen.add((long) was);
        }
        for (int what = 0; what <= 1; what++) {
            seen.add((long) x.cut(0, what));
            seen.add((long) x.cut(1, what));
        }
    }

    private static void addShelf(List<Long> seen, MillPaper x, int d) {
        seen.add((long) x.weight(d));
        seen.add((long) x.toss(d));
        seen.add((long) x.pays(d, 0, 0, 0, 999, 998));
        seen.add((long) x.pays(d, 1, 0, 0, 0, 1));
        for (int what = 0; what <= 3; what++) {
            seen.add(x.outcome(d, what));
        }
        try {
            for (int i = 0; i < 100; i++) {
                seen.add(x.element(d, i));
            }
        } catch (IllegalStateException behindTheLast) {
            seen.add(Long.MIN_VALUE);
        }
    }
}
