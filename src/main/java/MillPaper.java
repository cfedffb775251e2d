/** Two owners of one mill who part: what prices, bids and other papers come to between them. */
public final class MillPaper {
    private static final int OWNERS = 2;
    private static final int SIGNS = 5;
    private static final int PIECES = 8;
    private static final int SHELVES = 8;
    private static final int KINDS = 8;
    private static final int ELEMENTS = 100;
    private static final int GREATEST = 999;
    private static final int WHOLE = 100;
    private static final int STRANGERS = 2;
    private static final int LEAST_STEP = 50;
    private static final int LAST_DAY = 60;
    private static final int MOST_LOTS = 50;
    private static final int SEARCHED_SIGNS = 4;
    private static final int SEARCHED_STEPS = 5;
    private static final int SEARCHED_ROWS = 625;
    private static final int WITHOUT_SIGN = 0x7fffffff;

    private static final int NO_SUCH = -1;
    private static final int NO_ROOM = -2;
    private static final int NOT_NOW = -3;
    private static final int NONE = -4;
    private static final int EMPTY = -11;
    private static final int OTHER_KIND = -12;
    private static final int NO_PLACE = -13;
    private static final int BELOW_ZERO = -14;
    private static final int NO_FAILURE = -15;
    private static final int INT_LESS = 1000000000;
    private static final long LONG_LESS = 4000000000000000000L;

    private final Mill mill = new Mill();
    private final Mill imageOfMill = new Mill();
    private final Mill trial = new Mill();
    private final Way[] papers = new Way[SHELVES];
    private final Row[] rows = new Row[SHELVES];
    private final int[] numbers = new int[OWNERS * SIGNS];
    private boolean imageTaken = false;

    public MillPaper() {
    }

    // ---- owners, signs

    public int sign(int owner, int chance, int worth, int coin) {
        if (!isOwner(owner) || chance < 1 || chance > WHOLE || !isNumber(worth) || !isNumber(coin)) {
            return NO_SUCH;
        }
        Owner one = mill.owner(owner);
        if (one.signs() >= SIGNS) {
            return NO_ROOM;
        }
        if (one.chances() + chance > WHOLE) {
            return NOT_NOW;
        }
        return one.add(chance, worth, coin);
    }

    public int of(int owner, int sign, int what) {
        if (!isSign(owner, sign) || what < 0 || what > 2) {
            return NO_SUCH;
        }
        Owner one = mill.owner(owner);
        return what == 0 ? one.chance(sign) : what == 1 ? one.worth(sign) : one.coin(sign);
    }

    public int change(int owner, int sign, int what, int n) {
        if (!isSign(owner, sign) || what < 1 || what > 2 || !isNumber(n)) {
            return NO_SUCH;
        }
        Owner one = mill.owner(owner);
        return what == 1 ? one.becomeWorth(sign, n) : one.becomeCoin(sign, n);
    }

    public int set(int what, int n) {
        switch (what) {
            case 0:
                return n < 1 || n >= WHOLE ? NO_SUCH : mill.becomePart(n);
            case 1:
                return !isNumber(n) ? NO_SUCH : mill.becomeOutside(n);
            case 2:
            case 3:
                return n < 0 || n > 99 ? NO_SUCH : mill.owner(what - 2).becomeLoss(n);
            default:
                return NO_SUCH;
        }
    }

    // ---- naming

    public int named(int namer, int i, int j, int p) {
        if (!isNaming(namer, i, j, p)) {
            return NO_SUCH;
        }
        return holderOf(saleByName(namer, i, j, p));
    }

    public int gets(int owner, int namer, int i, int j, int p) {
        if (!isOwner(owner) || !isNaming(namer, i, j, p)) {
            return NO_SUCH - INT_LESS;
        }
        return mill.gain(owner, owner == 0 ? i : j, saleByName(namer, i, j, p));
    }

    public long meanNamed(int owner, int sign, int p) {
        if (!isSign(owner, sign) || !isNumber(p)) {
            return NO_SUCH - LONG_LESS;
        }
        Owner other = mill.owner(1 - owner);
        if (!other.ready()) {
            return NOT_NOW - LONG_LESS;
        }
        return mill.meanOver(owner, sign, p, 0, other.signs());
    }

    public int bestPrice(int owner, int sign) {
        if (!isSign(owner, sign)) {
            return NO_SUCH;
        }
        if (!mill.owner(1 - owner).ready()) {
            return NOT_NOW;
        }
        return mill.bestFor(owner, sign);
    }

    public int tells(int owner, int p) {
        if (!isOwner(owner) || !isNumber(p)) {
            return NO_SUCH;
        }
        if (!mill.bothReady()) {
            return NOT_NOW;
        }
        Owner namer = mill.owner(owner);
        int sum = 0;
        for (int s = 0; s < namer.signs(); s++) {
            if (mill.bestFor(owner, s) == p) {
                sum += namer.chance(s);
            }
        }
        return sum;
    }

    public long meanChosen(int owner, int sign) {
        if (!isSign(owner, sign)) {
            return NO_SUCH - LONG_LESS;
        }
        if (!mill.bothReady()) {
            return NOT_NOW - LONG_LESS;
        }
        int namer = 1 - owner;
        long sum = 0;
        for (int s = 0; s < mill.owner(namer).signs(); s++) {
            int sale = mill.namedSale(namer, s, sign, mill.bestFor(namer, s));
            sum += (long) mill.owner(namer).chance(s) * mill.gain(owner, sign, sale);
        }
        return sum;
    }

    public int waits(int last, int what) {
        if (last < 0 || last > LAST_DAY || what < 0 || what > 1) {
            return NO_SUCH;
        }
        if (!mill.bothReady()) {
            return NOT_NOW;
        }
        long zeroByZero = meanOfNaming(0, 0);
        long oneByZero = meanOfNaming(0, 1);
        long zeroByOne = meanOfNaming(1, 0);
        long oneByOne = meanOfNaming(1, 1);
        int namer = 0;
        int day = last;
        long zeroLater = zeroByZero;
        long oneLater = oneByZero;
        for (int today = last - 1; today >= 0; today--) {
            zeroLater -= 10000L * mill.owner(0).loss();
            oneLater -= 10000L * mill.owner(1).loss();
            int owner = today % 2;
            if (owner == 0 ? zeroByZero >= zeroLater : oneByOne >= oneLater) {
                namer = owner;
                day = today;
                zeroLater = owner == 0 ? zeroByZero : zeroByOne;
                oneLater = owner == 0 ? oneByZero : oneByOne;
            }
        }
        return what == 0 ? namer : day;
    }

    public int purse(int owner, int sign) {
        if (!isSign(owner, sign)) {
            return NO_SUCH;
        }
        if (!mill.owner(1 - owner).ready()) {
            return NOT_NOW;
        }
        int now = mill.bestFor(owner, sign);
        trial.becomeLike(mill);
        for (int coin = 0; coin <= GREATEST; coin++) {
            trial.owner(1 - owner).raiseCoins(coin);
            if (trial.bestFor(owner, sign) != now) {
                return coin;
            }
        }
        return NONE;
    }

    // ---- bids

    public int has(int d, int i, int j, int x, int y) {
        int refusal = refusalOfDeal(d, i, j, x, y);
        Way paper = paperAt(d);
        if (refusal != 0 || paper == null) {
            return refusal;
        }
        return holderOf(paper.sale(mill, i, j, x, y));
    }

    public int pays(int d, int owner, int i, int j, int x, int y) {
        int refusal = isOwner(owner) ? refusalOfDeal(d, i, j, x, y) : NO_SUCH;
        Way paper = paperAt(d);
        if (refusal != 0 || paper == null) {
            return refusal - INT_LESS;
        }
        return mill.gain(owner, owner == 0 ? i : j, paper.sale(mill, i, j, x, y));
    }

    public long meanBid(int d, int e, int owner, int sign) {
        int refusal = isSign(owner, sign) ? refusalOfBids(d, e) : NO_SUCH;
        Way paper = paperAt(d);
        if (refusal != 0 || paper == null) {
            return refusal - LONG_LESS;
        }
        return meanWith(paper, owner, sign, number(owner, sign));
    }

    public int rest(int d, int e, int n) {
        int refusal = isStep(n) ? refusalOfBids(d, e) : NO_SUCH;
        Way paper = paperAt(d);
        if (refusal != 0 || paper == null) {
            return refusal;
        }
        return firstThatWouldRather(paper, n);
    }

    public int rests(int d, int n, int what) {
        int refusal = isStep(n) && what >= -1 ? refusalOfSearch(d, n) : NO_SUCH;
        Way paper = paperAt(d);
        if (refusal != 0 || paper == null) {
            return refusal;
        }
        int signs = mill.signsOfBoth();
        int found = 0;
        clearNumbers();
        for (int turn = 0; turn < SEARCHED_ROWS; turn++) {
            if (firstThatWouldRather(paper, n) == NONE) {
                if (what >= 0) {
                    return what < signs ? numberAt(what) : NONE;
                }
                found++;
            }
            if (!stepOn(n, signs)) {
                break;
            }
        }
        return what >= 0 ? NONE : found;
    }

    // ---- outcomes

    public long outcome(int d, int what) {
        int refusal = what >= 0 && what <= 3 ? refusalOfOutcome(d) : NO_SUCH;
        Way paper = paperAt(d);
        if (refusal != 0 || paper == null) {
            return refusal - LONG_LESS;
        }
        tellNumbers(paper);
        return meanByNumbers(paper, what);
    }

    public int bestPaper(int d, int figure, int what) {
        if (!isShelf(d) || !isNumber(figure) || what < 0 || what > 1) {
            return NO_SUCH;
        }
        if (!mill.bothReady()) {
            return NOT_NOW;
        }
        if (isEmpty(d)) {
            return EMPTY;
        }
        Row kinds = rowAt(d);
        if (kinds == null || kinds.sort() != 0) {
            return OTHER_KIND;
        }
        if (!holdsKinds(kinds)) {
            return NO_PLACE;
        }
        int best = 0;
        long most = 0;
        for (int k = 0; k < kinds.size(); k++) {
            Way paper = paperOf(kinds.at(k), figure);
            tellNumbers(paper);
            long value = valueByNumbers(paper, what);
            if (k == 0 || value > most) {
                best = k;
                most = value;
            }
        }
        return best;
    }

    public long knowing() {
        if (!mill.bothReady()) {
            return NOT_NOW - LONG_LESS;
        }
        int signs = mill.owner(1).signs();
        long more = 0;
        for (int i = 0; i < mill.owner(0).signs(); i++) {
            long known = 0;
            for (int j = 0; j < signs; j++) {
                known += mill.meanOver(0, i, mill.bestOver(0, i, j, j + 1), j, j + 1);
            }
            long unknown = mill.meanOver(0, i, mill.bestFor(0, i), 0, signs);
            more += mill.owner(0).chance(i) * (known - unknown);
        }
        return more;
    }

    public int edge(int owner, int a, int b, int sign) {
        if (!isSign(owner, a) || !isSign(owner, b) || a == b || !isSign(1 - owner, sign)) {
            return NO_SUCH;
        }
        if (!mill.owner(owner).ready()) {
            return NOT_NOW;
        }
        int now = mill.bestFor(1 - owner, sign);
        trial.becomeLike(mill);
        for (int n = 1; n < mill.owner(owner).chance(a); n++) {
            trial.owner(owner).moveChance(a, b);
            if (trial.bestFor(1 - owner, sign) != now) {
                return n;
            }
        }
        return NONE;
    }

    public int piece(int first, int second) {
        if (first < 0 || first > 99 || second < 0 || second > 99) {
            return NO_SUCH;
        }
        if (mill.pieces() >= PIECES) {
            return NO_ROOM;
        }
        return mill.addPiece(first, second);
    }

    public int cut(int owner, int what) {
        if (!isOwner(owner) || what < 0 || what > 1) {
            return NO_SUCH;
        }
        int sets = 1 << mill.pieces();
        int best = 0;
        int most = -1;
        for (int set = 0; set < sets; set++) {
            int left = mill.leftToCutter(owner, set, sets - 1 - set);
            if (left > most) {
                best = set;
                most = left;
            }
        }
        return what == 0 ? best : most;
    }

    public int lots(int d, int n, int z, int what) {
        int refusal = n >= 1 && n <= MOST_LOTS && what >= 0 && what <= 2 ? refusalOfOutcome(d) : NO_SUCH;
        Way paper = paperAt(d);
        if (refusal != 0 || paper == null) {
            return refusal;
        }
        tellNumbers(paper);
        int seed = z;
        int found = 0;
        for (int lot = 0; lot < n; lot++) {
            seed = nextSeed(seed);
            int i = mill.owner(0).signDrawn(lotOf(seed));
            seed = nextSeed(seed);
            int j = mill.owner(1).signDrawn(lotOf(seed));
            if (holderOf(paper.sale(mill, i, j, number(0, i), number(1, j))) == what) {
                found++;
            }
        }
        return found;
    }

    // ---- the image, what is told

    public int image() {
        imageOfMill.becomeLike(mill);
        imageTaken = true;
        return mill.signsOfBoth();
    }

    public int restore() {
        if (!imageTaken) {
            return NOT_NOW;
        }
        mill.becomeLike(imageOfMill);
        return mill.signsOfBoth();
    }

    public int count(int what) {
        switch (what) {
            case 0:
            case 1:
                return mill.owner(what).signs();
            case 2:
            case 3:
                return mill.owner(what - 2).chances();
            case 4:
                return mill.pieces();
            case 5:
                return mill.partOf(1);
            default:
                return NO_SUCH;
        }
    }

    // ---- shelves

    public int keep(int d, int what, int k, int figure) {
        if (!isShelf(d) || what < 0 || what > 1) {
            return NO_SUCH;
        }
        if (what == 1 && (k < 0 || k >= KINDS || !isNumber(figure))) {
            return NO_SUCH;
        }
        papers[d] = what == 0 ? null : paperOf(k, figure);
        rows[d] = null;
        return 0;
    }

    public int row(int d, int sort, int n) {
        if (!isShelf(d) || sort < 0 || sort > 2 || n > ELEMENTS) {
            return NO_SUCH;
        }
        if (n < 0) {
            return BELOW_ZERO;
        }
        papers[d] = null;
        rows[d] = new Row(sort, n);
        return 0;
    }

    public int put(int d, int i, int v) {
        if (!isShelf(d)) {
            return NO_SUCH;
        }
        if (isEmpty(d)) {
            return EMPTY;
        }
        Row row = rowAt(d);
        if (row == null) {
            return OTHER_KIND;
        }
        return row.become(i, v) ? 0 : NO_PLACE;
    }

    public long element(int d, int i) throws IllegalArgumentException, IllegalStateException {
        if (!isShelf(d)) {
            throw new IllegalArgumentException("no such shelf");
        }
        Row row = rowAt(d);
        if (row == null || !row.isPlace(i)) {
            throw new IllegalStateException("no row, or no such place in it");
        }
        return row.at(i);
    }

    public int copy(int d, int i, int e, int j, int n) {
        if (!isShelf(d) || !isShelf(e)) {
            return NO_SUCH;
        }
        if (isEmpty(d) || isEmpty(e)) {
            return EMPTY;
        }
        Row from = rowAt(d);
        Row to = rowAt(e);
        if (from == null || to == null || from.sort() != to.sort()) {
            return OTHER_KIND;
        }
        if (!from.isStretch(i, n) || !to.isStretch(j, n)) {
            return NO_PLACE;
        }
        to.takeOver(from, i, j, n);
        return n;
    }

    public int weight(int d) {
        int refusal = refusalOfPaper(d);
        Way paper = paperAt(d);
        if (refusal != 0 || paper == null) {
            return refusal;
        }
        return paper.heft();
    }

    public int toss(int d) {
        int refusal = refusalOfPaper(d);
        Way paper = paperAt(d);
        if (refusal != 0 || paper == null) {
            return refusal;
        }
        try {
            paper.fail();
            return NO_FAILURE;
        } catch (IllegalStateException risen) {
            return 1000 + paper.figure();
        } catch (UnsupportedOperationException thirds) {
            return 2000 + paper.heft();
        } catch (IllegalArgumentException plain) {
            return paper.figure();
        }
    }

    // ---- what is told apart before a call goes on

    private static boolean isOwner(int owner) {
        return owner >= 0 && owner < OWNERS;
    }

    private static boolean isNumber(int n) {
        return n >= 0 && n <= GREATEST;
    }

    private static boolean isShelf(int d) {
        return d >= 0 && d < SHELVES;
    }

    private static boolean isStep(int n) {
        return n >= LEAST_STEP && n <= GREATEST;
    }

    private boolean isSign(int owner, int sign) {
        return isOwner(owner) && sign >= 0 && sign < mill.owner(owner).signs();
    }

    private boolean isNaming(int namer, int i, int j, int p) {
        return isOwner(namer) && isSign(0, i) && isSign(1, j) && isNumber(p);
    }

    private Way paperAt(int d) {
        return isShelf(d) ? papers[d] : null;
    }

    private Row rowAt(int d) {
        return isShelf(d) ? rows[d] : null;
    }

    private boolean isEmpty(int d) {
        return paperAt(d) == null && rowAt(d) == null;
    }

    private int refusalOfPaper(int d) {
        if (!isShelf(d)) {
            return NO_SUCH;
        }
        if (isEmpty(d)) {
            return EMPTY;
        }
        return paperAt(d) == null ? OTHER_KIND : 0;
    }

    private int refusalOfDeal(int d, int i, int j, int x, int y) {
        if (!isSign(0, i) || !isSign(1, j) || !isNumber(x) || !isNumber(y)) {
            return NO_SUCH;
        }
        return refusalOfPaper(d);
    }

    private int refusalOfOutcome(int d) {
        if (isShelf(d) && !mill.bothReady()) {
            return NOT_NOW;
        }
        return refusalOfPaper(d);
    }

    /** Behind it the bids stand in the numbers, if nothing is refused. */
    private int refusalOfBids(int d, int e) {
        if (!isShelf(d) || !isShelf(e)) {
            return NO_SUCH;
        }
        if (!mill.bothReady()) {
            return NOT_NOW;
        }
        if (isEmpty(d) || isEmpty(e)) {
            return EMPTY;
        }
        Row bids = rowAt(e);
        if (!(paperAt(d) instanceof Sealed) || bids == null) {
            return OTHER_KIND;
        }
        return readBids(bids) ? 0 : NO_PLACE;
    }

    private int refusalOfSearch(int d, int n) {
        int refusal = refusalOfPaper(d);
        if (refusal != 0) {
            return refusal;
        }
        if (!(paperAt(d) instanceof Sealed)) {
            return OTHER_KIND;
        }
        boolean tooMany = mill.signsOfBoth() > SEARCHED_SIGNS || SEARCHED_STEPS * n <= GREATEST;
        return tooMany || !mill.bothReady() ? NOT_NOW : 0;
    }

    private static boolean holdsKinds(Row kinds) {
        if (kinds.size() < 1 || kinds.size() > KINDS) {
            return false;
        }
        for (int k = 0; k < kinds.size(); k++) {
            if (kinds.at(k) < 0 || kinds.at(k) >= KINDS) {
                return false;
            }
        }
        return true;
    }

    // ---- naming, from the side of the owners

    private int saleByName(int namer, int i, int j, int p) {
        return namer == 0 ? mill.namedSale(0, i, j, p) : mill.namedSale(1, j, i, p);
    }

    /** The mean of an owner over all signs of both, where each sign of the namer names its best price. */
    private long meanOfNaming(int namer, int owner) {
        Owner names = mill.owner(namer);
        Owner chooses = mill.owner(1 - namer);
        long sum = 0;
        for (int s = 0; s < names.signs(); s++) {
            int price = mill.bestFor(namer, s);
            for (int t = 0; t < chooses.signs(); t++) {
                int gain = mill.gain(owner, owner == namer ? s : t, mill.namedSale(namer, s, t, price));
                sum += (long) names.chance(s) * chooses.chance(t) * gain;
            }
        }
        return sum;
    }

    // ---- the numbers: one for each sign of owner 0, then of owner 1

    private int numberAt(int k) {
        return k >= 0 && k < numbers.length ? numbers[k] : 0;
    }

    private int number(int owner, int sign) {
        return numberAt(owner == 0 ? sign : mill.owner(0).signs() + sign);
    }

    private void clearNumbers() {
        for (int k = 0; k < numbers.length; k++) {
            numbers[k] = 0;
        }
    }

    private boolean readBids(Row bids) {
        int signs = mill.signsOfBoth();
        if (bids.size() != signs || signs > numbers.length) {
            return false;
        }
        for (int k = 0; k < signs; k++) {
            if (!isNumber(bids.at(k))) {
                return false;
            }
            numbers[k] = bids.at(k);
        }
        return true;
    }

    /** The numbers become the next row of steps in order; false behind the last one. */
    private boolean stepOn(int n, int signs) {
        for (int k = Math.min(signs, numbers.length) - 1; k >= 0; k--) {
            if (numbers[k] + n <= GREATEST) {
                numbers[k] += n;
                return true;
            }
            numbers[k] = 0;
        }
        return false;
    }

    private void tellNumbers(Way paper) {
        int first = mill.owner(0).signs();
        for (int k = 0; k < mill.signsOfBoth() && k < numbers.length; k++) {
            numbers[k] = k < first ? paper.telling(mill, 0, k) : paper.telling(mill, 1, k - first);
        }
    }

    // ---- papers by the numbers

    /** The mean of a sign that bids its own bid, against the numbers of the other owner. */
    private long meanWith(Way paper, int owner, int sign, int bid) {
        Owner other = mill.owner(1 - owner);
        long sum = 0;
        for (int t = 0; t < other.signs(); t++) {
            int against = number(1 - owner, t);
            int sale = owner == 0
                ? paper.sale(mill, sign, t, bid, against)
                : paper.sale(mill, t, sign, against, bid);
            sum += (long) other.chance(t) * mill.gain(owner, sign, sale);
        }
        return sum;
    }

    private int firstThatWouldRather(Way paper, int n) {
        for (int owner = 0; owner < OWNERS; owner++) {
            for (int sign = 0; sign < mill.owner(owner).signs(); sign++) {
                if (wouldRather(paper, owner, sign, n)) {
                    return 10 * owner + sign;
                }
            }
        }
        return NONE;
    }

    private boolean wouldRather(Way paper, int owner, int sign, int n) {
        long now = meanWith(paper, owner, sign, number(owner, sign));
        // No less than the least step, so that the loop ends by itself.
        int step = Math.max(n, LEAST_STEP);
        for (int bid = 0; bid <= GREATEST; bid += step) {
            if (meanWith(paper, owner, sign, bid) > now) {
                return true;
            }
        }
        return false;
    }

    private long meanByNumbers(Way paper, int what) {
        long sum = 0;
        for (int i = 0; i < mill.owner(0).signs(); i++) {
            for (int j = 0; j < mill.owner(1).signs(); j++) {
                int sale = paper.sale(mill, i, j, number(0, i), number(1, j));
                long chance = (long) mill.owner(0).chance(i) * mill.owner(1).chance(j);
                sum += chance * toldOfSale(what, i, j, sale);
            }
        }
        return sum;
    }

    private int toldOfSale(int what, int i, int j, int sale) {
        switch (what) {
            case 0:
                return mill.gain(0, i, sale);
            case 1:
                return mill.gain(1, j, sale);
            case 2:
                return mill.lost(i, j, sale) > 0 ? 1 : 0;
            default:
                return mill.lost(i, j, sale);
        }
    }

    private long valueByNumbers(Way paper, int what) {
        long zero = meanByNumbers(paper, 0);
        long one = meanByNumbers(paper, 1);
        return what == 0 ? zero + one : Math.min(zero, one);
    }

    private static Way paperOf(int kind, int figure) {
        switch (kind) {
            case 1:
                return new Name(figure);
            case 2:
                return new Sealed(figure);
            case 3:
                return new Rise(figure);
            case 4:
                return new Outside(figure);
            case 5:
                return new Cut(figure);
            case 6:
                return new Third(figure);
            case 7:
                return new Halved(figure);
            default:
                return new Way(figure);
        }
    }

    // ---- lots

    private static int nextSeed(int z) {
        return z * 1103515245 + 12345;
    }

    private static int lotOf(int z) {
        return (z & WITHOUT_SIGN) / 65536 % WHOLE;
    }

    // ---- sales: who has it and the price in one int, so that no object is made for a sale

    private static int saleTo(int holder, int price) {
        return 1000 * holder + price;
    }

    private static int holderOf(int sale) {
        return sale / 1000;
    }

    private static int priceOf(int sale) {
        return sale % 1000;
    }

    /** One owner: its signs, its loss of a day and what the pieces are worth to it. */
    private static final class Owner {
        private final int[] chanceRow = new int[SIGNS];
        private final int[] worthRow = new int[SIGNS];
        private final int[] coinRow = new int[SIGNS];
        private final int[] pieceRow = new int[PIECES];
        private int signs = 0;
        private int loss = 1;

        int signs() {
            return signs;
        }

        int loss() {
            return loss;
        }

        int chance(int s) {
            return s >= 0 && s < chanceRow.length ? chanceRow[s] : 0;
        }

        int worth(int s) {
            return s >= 0 && s < worthRow.length ? worthRow[s] : 0;
        }

        int coin(int s) {
            return s >= 0 && s < coinRow.length ? coinRow[s] : 0;
        }

        /** What is due is in hundredths, as gains are. */
        boolean affords(int s, int due) {
            return s >= 0 && s < coinRow.length && due <= WHOLE * coinRow[s];
        }

        int chances() {
            int sum = 0;
            for (int s = 0; s < chanceRow.length; s++) {
                sum += chanceRow[s];
            }
            return sum;
        }

        boolean ready() {
            return chances() == WHOLE;
        }

        int add(int chance, int worth, int coin) {
            int s = signs;
            if (s < 0 || s >= SIGNS) {
                return NO_ROOM;
            }
            chanceRow[s] = chance;
            worthRow[s] = worth;
            coinRow[s] = coin;
            signs = s + 1;
            return s;
        }

        int becomeWorth(int s, int n) {
            if (s < 0 || s >= worthRow.length) {
                return NO_SUCH;
            }
            int old = worthRow[s];
            worthRow[s] = n;
            return old;
        }

        int becomeCoin(int s, int n) {
            if (s < 0 || s >= coinRow.length) {
                return NO_SUCH;
            }
            int old = coinRow[s];
            coinRow[s] = n;
            return old;
        }

        int becomeLoss(int n) {
            int old = loss;
            loss = n;
            return old;
        }

        void raiseCoins(int least) {
            for (int s = 0; s < signs && s < coinRow.length; s++) {
                coinRow[s] = Math.max(coinRow[s], least);
            }
        }

        void moveChance(int a, int b) {
            if (a >= 0 && a < chanceRow.length && b >= 0 && b < chanceRow.length) {
                chanceRow[a]--;
                chanceRow[b]++;
            }
        }

        int signDrawn(int lot) {
            int below = 0;
            for (int s = 0; s < signs; s++) {
                below += chance(s);
                if (lot < below) {
                    return s;
                }
            }
            return 0;
        }

        void becomePiece(int k, int worth) {
            if (k >= 0 && k < pieceRow.length) {
                pieceRow[k] = worth;
            }
        }

        int worthOfSet(int set) {
            int sum = 0;
            for (int k = 0; k < pieceRow.length; k++) {
                if ((set >> k & 1) == 1) {
                    sum += pieceRow[k];
                }
            }
            return sum;
        }

        void becomeLike(Owner other) {
            System.arraycopy(other.chanceRow, 0, chanceRow, 0, SIGNS);
            System.arraycopy(other.worthRow, 0, worthRow, 0, SIGNS);
            System.arraycopy(other.coinRow, 0, coinRow, 0, SIGNS);
            System.arraycopy(other.pieceRow, 0, pieceRow, 0, PIECES);
            signs = other.signs;
            loss = other.loss;
        }
    }

    /** All that an image holds: both owners, their parts, what strangers give, the pieces. */
    private static final class Mill {
        private final Owner zero = new Owner();
        private final Owner one = new Owner();
        private final int[] turns = new int[SIGNS + 1];
        private int part = 50;
        private int outside = 0;
        private int pieces = 0;

        Owner owner(int o) {
            return o == 0 ? zero : one;
        }

        int partOf(int o) {
            return o == 0 ? part : WHOLE - part;
        }

        int outside() {
            return outside;
        }

        int pieces() {
            return pieces;
        }

        int signsOfBoth() {
            return zero.signs() + one.signs();
        }

        boolean bothReady() {
            return zero.ready() && one.ready();
        }

        int becomePart(int n) {
            int old = part;
            part = n;
            return old;
        }

        int becomeOutside(int n) {
            int old = outside;
            outside = n;
            return old;
        }

        int addPiece(int first, int second) {
            zero.becomePiece(pieces, first);
            one.becomePiece(pieces, second);
            pieces++;
            return pieces - 1;
        }

        /** What the cutter has: the other one takes the rest, unless the set is worth more to it. */
        int leftToCutter(int cutter, int set, int rest) {
            Owner taker = owner(1 - cutter);
            boolean takesSet = taker.worthOfSet(set) > taker.worthOfSet(rest);
            return owner(cutter).worthOfSet(takesSet ? rest : set);
        }

        /** A seller and one whose mill goes outside get the same share of the price. */
        int gain(int o, int s, int sale) {
            int price = priceOf(sale);
            if (holderOf(sale) == o) {
                return WHOLE * owner(o).worth(s) - price * partOf(1 - o);
            }
            return price * partOf(o);
        }

        int lost(int i, int j, int sale) {
            int first = zero.worth(i);
            int second = one.worth(j);
            int holder = holderOf(sale);
            int kept = holder == 0 ? first : holder == 1 ? second : priceOf(sale);
            return Math.max(0, Math.max(first, second) - kept);
        }

        boolean canBuy(int o, int s, int price) {
            return owner(o).affords(s, price * partOf(1 - o));
        }

        int saleOutside() {
            return saleTo(STRANGERS, outside);
        }

        int saleByBid(int buyer, int s, int price) {
            return canBuy(buyer, s, price) ? saleTo(buyer, price) : saleOutside();
        }

        /** s is the namer's sign, t that of the one who chooses. */
        int namedSale(int namer, int s, int t, int price) {
            int chooser = 1 - namer;
            Owner chooses = owner(chooser);
            if (chooses.worth(t) >= price && chooses.affords(t, price * partOf(namer))) {
                return saleTo(chooser, price);
            }
            if (owner(namer).affords(s, price * partOf(chooser))) {
                return saleTo(namer, price);
            }
            return saleTo(STRANGERS, outside);
        }

        /** The mean of a namer's sign over the other's signs from one up to another. */
        long meanOver(int namer, int s, int price, int from, int to) {
            Owner other = owner(1 - namer);
            long sum = 0;
            for (int t = from; t < to && t < SIGNS; t++) {
                sum += (long) other.chance(t) * gain(namer, s, namedSale(namer, s, t, price));
            }
            return sum;
        }

        int bestFor(int namer, int s) {
            return bestOver(namer, s, 0, owner(1 - namer).signs());
        }

        /**
         * From one turn of the price to the next one the mean is a straight line, behind the last one
         * it stays the same, so that just the ends can be best: 0, each turn and the price behind it.
         */
        int bestOver(int namer, int s, int from, int to) {
            int found = fillTurns(namer, s, from, to);
            int best = 0;
            long most = meanOver(namer, s, 0, from, to);
            for (int k = 0; k < found && k < turns.length; k++) {
                for (int price = turns[k]; price <= turns[k] + 1 && price <= GREATEST; price++) {
                    long mean = meanOver(namer, s, price, from, to);
                    if (mean > most || mean == most && price < best) {
                        best = price;
                        most = mean;
                    }
                }
            }
            return best;
        }

        /** A turn is the last price at which somebody buys. */
        private int fillTurns(int namer, int s, int from, int to) {
            turns[0] = lastPrice(namer, s);
            int found = 1;
            for (int t = from; t < to && found < turns.length; t++) {
                turns[found] = Math.min(owner(1 - namer).worth(t), lastPrice(1 - namer, t));
                found++;
            }
            return found;
        }

        /** The highest price that a sign of an owner has the coin for. */
        private int lastPrice(int o, int s) {
            int share = partOf(1 - o);
            return share > 0 ? Math.min(GREATEST, WHOLE * owner(o).coin(s) / share) : GREATEST;
        }

        void becomeLike(Mill other) {
            zero.becomeLike(other.zero);
            one.becomeLike(other.one);
            part = other.part;
            outside = other.outside;
            pieces = other.pieces;
        }
    }

    /** Elements of one sort; they are held as ints, cut to the sort's lowest bits as they come. */
    private static final class Row {
        private final int sort;
        private final int[] elements;

        Row(int sort, int n) {
            this.sort = sort;
            this.elements = new int[n < 0 ? 0 : n];
        }

        int sort() {
            return sort;
        }

        int size() {
            return elements.length;
        }

        boolean isPlace(int i) {
            return i >= 0 && i < elements.length;
        }

        boolean isStretch(int i, int n) {
            return i >= 0 && n >= 0 && n <= elements.length - i;
        }

        int at(int i) {
            return i >= 0 && i < elements.length ? elements[i] : 0;
        }

        boolean become(int i, int v) {
            if (i < 0 || i >= elements.length) {
                return false;
            }
            elements[i] = sort == 0 ? (byte) v : sort == 1 ? (short) v : v;
            return true;
        }

        void takeOver(Row from, int i, int j, int n) {
            if (from.isStretch(i, n) && isStretch(j, n)) {
                System.arraycopy(from.elements, i, elements, j, n);
            }
        }
    }

    /** Nobody sells; and what the other kinds of papers have in common. */
    private static class Way {
        private final int figure;

        Way(int figure) {
            this.figure = figure;
        }

        final int figure() {
            return figure;
        }

        /** x and y are the numbers of sign i of owner 0 and of sign j of owner 1. */
        int sale(Mill mill, int i, int j, int x, int y) {
            return mill.saleOutside();
        }

        /** The number that a sign tells by itself. */
        int telling(Mill mill, int owner, int sign) {
            return 0;
        }

        int heft() {
            return 1;
        }

        /** Throws, if there is a failure. */
        void fail() {
            if (figure != 0) {
                throw new IllegalArgumentException("the paper fails");
            }
        }
    }

    /** Owner 1 chooses by owner 0's number. */
    private static class Name extends Way {
        Name(int figure) {
            super(figure);
        }

        int sale(Mill mill, int i, int j, int x, int y) {
            return mill.namedSale(0, i, j, x);
        }

        int telling(Mill mill, int owner, int sign) {
            return owner == 0 ? mill.bestFor(0, sign) : 0;
        }

        int heft() {
            return super.heft() + figure();
        }
    }

    /** Who bids more buys at its bid. */
    private static class Sealed extends Way {
        Sealed(int figure) {
            super(figure);
        }

        int sale(Mill mill, int i, int j, int x, int y) {
            return x >= y ? mill.saleByBid(0, i, priceFor(x, y)) : mill.saleByBid(1, j, priceFor(y, x));
        }

        int priceFor(int own, int others) {
            return own;
        }

        int telling(Mill mill, int owner, int sign) {
            return mill.owner(owner).worth(sign);
        }

        int heft() {
            return 3 * super.heft();
        }
    }

    /** Who bids more buys as soon as the other one bids no longer. */
    private static final class Rise extends Sealed {
        Rise(int figure) {
            super(figure);
        }

        int priceFor(int own, int others) {
            return Math.min(own, others + 1);
        }

        int heft() {
            return super.heft() + figure() / 10;
        }

        void fail() {
            if (figure() != 0) {
                throw new IllegalStateException("the rise fails");
            }
        }
    }

    /** Strangers have it, for nothing where they give less than the figure. */
    private static final class Outside extends Way {
        Outside(int figure) {
            super(figure);
        }

        int sale(Mill mill, int i, int j, int x, int y) {
            return figure() <= mill.outside() ? mill.saleOutside() : saleTo(STRANGERS, 0);
        }

        int heft() {
            return super.heft() + 50;
        }

        void fail() {
        }
    }

    /** As if owner 0 named the figure. */
    private static final class Cut extends Name {
        Cut(int figure) {
            super(figure);
        }

        int sale(Mill mill, int i, int j, int x, int y) {
            return mill.namedSale(0, i, j, figure());
        }

        int telling(Mill mill, int owner, int sign) {
            return 0;
        }

        int heft() {
            return 2 * super.heft();
        }
    }

    /** Who would and can buys at a third's figure. */
    private static final class Third extends Way {
        Third(int figure) {
            super(figure);
        }

        int sale(Mill mill, int i, int j, int x, int y) {
            boolean first = buys(mill, 0, i);
            boolean second = buys(mill, 1, j);
            if (first && (!second || mill.partOf(0) >= mill.partOf(1))) {
                return saleTo(0, figure());
            }
            return second ? saleTo(1, figure()) : mill.saleOutside();
        }

        private boolean buys(Mill mill, int owner, int sign) {
            return mill.owner(owner).worth(sign) >= figure() && mill.canBuy(owner, sign, figure());
        }

        int heft() {
            return super.heft() + 7;
        }

        void fail() {
            if (figure() != 0) {
                throw new UnsupportedOperationException("the third one fails");
            }
        }
    }

    /** Who bids more buys at half of both bids together. */
    private static final class Halved extends Sealed {
        Halved(int figure) {
            super(figure);
        }

        int priceFor(int own, int others) {
            return (own + others) / 2;
        }

        int heft() {
            return super.heft() + 2;
        }
    }
}
