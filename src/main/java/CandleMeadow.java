import java.util.Arrays;

/** Meadows of a village, sold standing by the candle, mown, dried and paid for. */
public final class CandleMeadow {
    private static final int WIDTH = 6;
    private static final int PLOTS = 24;
    private static final int GATE = 0;
    private static final int KINDS = 4;
    private static final int SIDES = 4;
    private static final int MOST_GRASS = 200;

    private static final int DRY_CHANCE = 80;
    private static final int WET_CHANCE = DRY_CHANCE - 30;
    private static final int FLOODED_CHANCE = WET_CHANCE / 2;
    private static final int HIGH_CHANCE = DRY_CHANCE + 15;

    private static final int MOST_BUYERS = 10;
    private static final int MOST_COWS = 50;
    private static final int MOST_PURSE = 100000;
    private static final int MOST_STEP = 100;
    private static final int MOST_BREATHS = 60;

    private static final int LAST_DAY = 30;
    private static final int SUNS_TO_DRY = 3;
    private static final int LOAD_FINE = 10;
    private static final int MOST_MOWN = 6;

    private static final int SHELVES = 8;
    private static final int MOST_ELEMENTS = 60;

    /** What a shelf holds, and what keep and make are asked for. */
    private static final int NOTHING = 0;
    private static final int A_PLOT = 1;
    private static final int INTS = 3;
    private static final int BYTES = 4;

    /** Stands for no owner, price, day of cutting or surety: the document answers -2 for each. */
    private static final int NONE = -2;

    private static final int WRONG = -1;
    private static final int FULL = -2;
    private static final int NOT_SO = -3;
    private static final int NOBODY = -4;
    private static final int LOST = -4;
    private static final int TOO_MANY = -5;
    private static final int HOLDS_NOTHING = -11;
    private static final int OTHER_KIND = -12;
    private static final int NO_PLACE = -13;
    private static final int SIZE_BELOW_ZERO = -14;
    private static final int NO_FAILURE = -15;

    private final Dry[] grounds = new Dry[KINDS];
    private final Plot[] plots = new Plot[PLOTS];
    private final Buyer[] buyers = new Buyer[MOST_BUYERS];
    private final Shelf[] shelves = new Shelf[SHELVES];
    private final boolean[] rainy = new boolean[LAST_DAY + 1];
    private final Sale sale = new Sale();
    private final Ways ways = new Ways();
    private final Martinmas martinmas = new Martinmas();
    private int buyerCount;
    private int bidStep = 5;
    private int today;
    private int ringSum;

    public CandleMeadow() {
        grounds[0] = new Dry();
        grounds[1] = new Wet();
        grounds[2] = new Flooded();
        grounds[3] = new High();
        for (int p = 0; p < PLOTS; p++) {
            plots[p] = new Plot(grounds[0]);
        }
        for (int b = 0; b < MOST_BUYERS; b++) {
            buyers[b] = new Buyer();
        }
        for (int d = 0; d < SHELVES; d++) {
            shelves[d] = new Shelf(grounds[0]);
        }
    }

    // ---- plots and buyers

    public int plot(int plot, int kind, int grass) {
        if (!isPlot(plot) || !within(kind, KINDS - 1) || !within(grass, MOST_GRASS)) {
            return WRONG;
        }
        Plot it = plots[plot];
        if (it.isSold()) {
            return NOT_SO;
        }
        int before = it.grass;
        it.kind = kind;
        it.ground = grounds[kind];
        it.grass = grass;
        return before;
    }

    public int buyer(int cows, int purse, int home) {
        if (!within(cows, MOST_COWS) || !within(purse, MOST_PURSE) || !isPlot(home)) {
            return WRONG;
        }
        if (buyerCount >= MOST_BUYERS) {
            return FULL;
        }
        Buyer it = buyers[buyerCount];
        it.cows = cows;
        it.purse = purse;
        it.home = home;
        buyerCount++;
        return buyerCount - 1;
    }

    public int purse(int buyer, int n) {
        if (!isBuyer(buyer) || !within(n, MOST_PURSE)) {
            return WRONG;
        }
        int before = buyers[buyer].purse;
        buyers[buyer].purse = n;
        return before;
    }

    public int waits(int buyer, boolean is) {
        if (!isBuyer(buyer)) {
            return WRONG;
        }
        boolean before = buyers[buyer].waits;
        buyers[buyer].waits = is;
        return oneIf(before != is);
    }

    public int surety(int buyer, int other) {
        boolean none = other == -1;
        if (!isBuyer(buyer) || !none && !isBuyer(other) || other == buyer) {
            return WRONG;
        }
        int before = buyers[buyer].surety;
        buyers[buyer].surety = none ? NONE : other;
        return before;
    }

    public int step(int n) {
        if (n < 1 || n > MOST_STEP) {
            return WRONG;
        }
        int before = bidStep;
        bidStep = n;
        return before;
    }

    public int look(int plot, int what) {
        if (!isPlot(plot)) {
            return WRONG;
        }
        Plot it = plots[plot];
        switch (what) {
            case 0: return it.kind;
            case 1: return it.grass;
            case 2: return it.ground.chance();
            case 3: return it.hay();
            case 4: return it.owner;
            case 5: return it.price;
            case 6: return it.cutDay;
            case 7: return oneIf(it.stands());
            default: return WRONG;
        }
    }

    public int about(int buyer, int what) {
        if (!isBuyer(buyer)) {
            return WRONG;
        }
        Buyer it = buyers[buyer];
        switch (what) {
            case 0: return it.cows;
            case 1: return it.purse;
            case 2: return it.home;
            case 3: return it.need();
            case 4: return hayOf(buyer);
            case 5: return it.debt;
            case 6: return it.trampled;
            case 7: return oneIf(it.waits);
            default: return WRONG;
        }
    }

    public int worth(int plot, int buyer) {
        if (!isPlot(plot) || !isBuyer(buyer)) {
            return WRONG;
        }
        return worthTo(buyer, plot);
    }

    // ---- sales

    public int candle(int plot, int breaths, int first) {
        if (!isPlot(plot) || breaths < 1 || breaths > MOST_BREATHS || !isBuyer(first)) {
            return WRONG;
        }
        if (plots[plot].isSold()) {
            return NOT_SO;
        }
        prepareSale(plot);
        sale.burn(breaths, first);
        if (sale.bidder == NONE) {
            return NOBODY;
        }
        // The ring is told as a sum alone: by lots must be asked before the sale changes purses and worths.
        ringSum += sale.bid - sale.lotPrice(sale.lotTaker());
        hand(plots[plot], sale.bidder, sale.bid);
        return sale.bid;
    }

    public int wins(int plot, int first, int buyer) {
        if (!isPlot(plot) || !isBuyer(first) || !isBuyer(buyer)) {
            return WRONG;
        }
        if (plots[plot].isSold()) {
            return NOT_SO;
        }
        prepareSale(plot);
        int candles = 0;
        for (int breaths = 1; breaths <= MOST_BREATHS; breaths++) {
            sale.burn(breaths, first);
            if (sale.bidder == buyer) {
                candles++;
            }
        }
        return candles;
    }

    public int lots(int plot) {
        int taker = lotter(plot);
        return taker < 0 ? taker : sale.lotPrice(taker);
    }

    public int lotter(int plot) {
        if (!isPlot(plot)) {
            return WRONG;
        }
        if (plots[plot].isSold()) {
            return NOT_SO;
        }
        prepareSale(plot);
        int taker = sale.lotTaker();
        return taker == NONE ? NOBODY : taker;
    }

    public int ring() {
        return ringSum;
    }

    // ---- mowing and hay

    public int day(int day) {
        if (day < today || day > LAST_DAY) {
            return WRONG;
        }
        int before = today;
        today = day;
        return before;
    }

    public int rain(int day, boolean is) {
        if (!within(day, LAST_DAY)) {
            return WRONG;
        }
        boolean before = rainy[day];
        rainy[day] = is;
        return oneIf(before != is);
    }

    public int way(int plot) {
        if (!isPlot(plot)) {
            return WRONG;
        }
        return ways.trampled(plots, plot);
    }

    public int cut(int plot) {
        if (!isPlot(plot)) {
            return WRONG;
        }
        Plot it = plots[plot];
        if (!it.stands() || !isBuyer(it.owner)) {
            return NOT_SO;
        }
        int trampled = ways.trampled(plots, plot);
        buyers[it.owner].trampled += trampled;
        it.cutDay = today;
        return trampled;
    }

    /**
     * The plot with the least number that stands goes over bare ground: west in its own row, then along the west
     * edge to the gate, all plots have lesser numbers and so don't stand. Therefore the row by numbers tramples
     * nothing, and it is the least of all rows.
     */
    public int best() {
        return standing() > MOST_MOWN ? TOO_MANY : 0;
    }

    public int order(int i) {
        if (i < 0) {
            return WRONG;
        }
        int count = standing();
        if (count > MOST_MOWN) {
            return TOO_MANY;
        }
        return i < count ? standingAt(i) : NOT_SO;
    }

    public int dry(int plot) {
        if (!isPlot(plot)) {
            return WRONG;
        }
        if (!plots[plot].isCut()) {
            return NOT_SO;
        }
        return dryDay(plots[plot]);
    }

    public int barn(int plot) {
        if (!isPlot(plot)) {
            return WRONG;
        }
        if (!plots[plot].isCut()) {
            return NOT_SO;
        }
        return inBarn(plots[plot]);
    }

    public int tithe(int buyer) {
        if (!isBuyer(buyer)) {
            return WRONG;
        }
        int together = 0;
        for (int p = 0; p < PLOTS; p++) {
            if (plots[p].owner == buyer && plots[p].isCut()) {
                together += inBarn(plots[p]);
            }
        }
        return together / 10;
    }

    public int pays(int buyer, int what) {
        if (!isBuyer(buyer)) {
            return WRONG;
        }
        martinmas.settle(buyers, buyerCount);
        int owed = buyers[buyer].owes();
        int paid = martinmas.paid[buyer];
        int helped = martinmas.helped[buyer];
        switch (what) {
            case 0: return owed;
            case 1: return paid;
            case 2: return helped;
            case 3: return owed - paid - helped;
            default: return WRONG;
        }
    }

    public int count(int what) {
        switch (what) {
            case 0: return buyerCount;
            case 1: return sold();
            case 2: return standing();
            case 3: return today;
            case 4: return bidStep;
            case 5: return allHay();
            case 6: return rainyDays();
            default: return WRONG;
        }
    }

    public int keep(int d, int what, int k) {
        if (!isShelf(d)) {
            return WRONG;
        }
        switch (what) {
            case NOTHING: shelves[d].holds = NOTHING; return 0;
            case A_PLOT: return keepPlot(shelves[d], k);
            case INTS: return keepWorths(shelves[d], k);
            case BYTES: return keepOwners(shelves[d]);
            default: return WRONG;
        }
    }

    public int make(int d, int what, int n) {
        if (!isShelf(d) || what != INTS && what != BYTES || n > MOST_ELEMENTS) {
            return WRONG;
        }
        if (n < 0) {
            return SIZE_BELOW_ZERO;
        }
        shelves[d].takeRow(what, n);
        return 0;
    }

    public long element(int d, int i) throws IllegalArgumentException, IllegalStateException {
        if (!isShelf(d)) {
            throw new IllegalArgumentException("no such shelf");
        }
        Shelf shelf = shelves[d];
        if (!shelf.isRow()) {
            throw new IllegalStateException("no row is held");
        }
        if (i < 0 || i >= shelf.size) {
            throw new IllegalStateException("no such place");
        }
        return shelf.holds == INTS ? shelf.ints[i] : shelf.bytes[i];
    }

    public int copy(int d, int i, int e, int j, int n) {
        if (!isShelf(d) || !isShelf(e)) {
            return WRONG;
        }
        Shelf from = shelves[d];
        Shelf to = shelves[e];
        if (from.holds == NOTHING || to.holds == NOTHING) {
            return HOLDS_NOTHING;
        }
        if (!from.isRow() || from.holds != to.holds) {
            return OTHER_KIND;
        }
        if (!from.hasPlaces(i, n) || !to.hasPlaces(j, n)) {
            return NO_PLACE;
        }
        // arraycopy reads as if all were read first, which a shelf copied onto itself needs.
        if (from.holds == INTS) {
            System.arraycopy(from.ints, i, to.ints, j, n);
        } else {
            System.arraycopy(from.bytes, i, to.bytes, j, n);
        }
        return n;
    }

    public int weight(int d) {
        int refusal = refusalOfPlotOn(d);
        if (refusal != 0) {
            return refusal;
        }
        return shelves[d].ground.heft(shelves[d].grass);
    }

    public int toss(int d) {
        int refusal = refusalOfPlotOn(d);
        if (refusal != 0) {
            return refusal;
        }
        return isThrown(shelves[d].ground) ? shelves[d].plot : NO_FAILURE;
    }

    // ---- what the calls share

    private static boolean within(int n, int most) {
        return n >= 0 && n <= most;
    }

    private static int oneIf(boolean is) {
        return is ? 1 : 0;
    }

    private static boolean isPlot(int plot) {
        return plot >= 0 && plot < PLOTS;
    }

    private static boolean isShelf(int d) {
        return d >= 0 && d < SHELVES;
    }

    private boolean isBuyer(int buyer) {
        return buyer >= 0 && buyer < buyerCount;
    }

    private int hayOf(int buyer) {
        int hay = 0;
        for (int p = 0; p < PLOTS; p++) {
            if (plots[p].owner == buyer) {
                hay += plots[p].hay();
            }
        }
        return hay;
    }

    private boolean ownsBeside(int buyer, int plot) {
        for (int side = 0; side < SIDES; side++) {
            int beside = Plot.beside(plot, side);
            if (beside >= 0 && plots[beside].owner == buyer) {
                return true;
            }
        }
        return false;
    }

    private int worthTo(int buyer, int plot) {
        Buyer it = buyers[buyer];
        int worth = 10 * plots[plot].hay() - 5 * Plot.steps(plot, it.home);
        if (ownsBeside(buyer, plot)) {
            worth += 20;
        }
        if (hayOf(buyer) < it.need()) {
            worth *= 2;
        }
        return Math.max(worth, 0);
    }

    private void prepareSale(int plot) {
        sale.count = buyerCount;
        sale.step = bidStep;
        for (int b = 0; b < buyerCount; b++) {
            sale.caps[b] = Math.min(worthTo(b, plot), buyers[b].purse - buyers[b].debt);
            sale.waiting[b] = buyers[b].waits;
        }
    }

    private void hand(Plot plot, int buyer, int price) {
        plot.owner = buyer;
        plot.price = price;
        buyers[buyer].debt += price;
    }

    private int sold() {
        int sold = 0;
        for (int p = 0; p < PLOTS; p++) {
            sold += oneIf(plots[p].isSold());
        }
        return sold;
    }

    private int standing() {
        int standing = 0;
        for (int p = 0; p < PLOTS; p++) {
            standing += oneIf(plots[p].stands());
        }
        return standing;
    }

    /** The plot that stands behind i others, i below the number of those that stand. */
    private int standingAt(int i) {
        int passed = 0;
        for (int p = 0; p < PLOTS; p++) {
            if (plots[p].stands()) {
                if (passed == i) {
                    return p;
                }
                passed++;
            }
        }
        return NOT_SO;
    }

    private int allHay() {
        int hay = 0;
        for (int p = 0; p < PLOTS; p++) {
            hay += plots[p].hay();
        }
        return hay;
    }

    private int rainyDays() {
        int days = 0;
        for (int d = 0; d <= LAST_DAY; d++) {
            days += oneIf(rainy[d]);
        }
        return days;
    }

    /** The day on which the hay of a plot that is cut comes in, or LOST. */
    private int dryDay(Plot plot) {
        int suns = 0;
        for (int d = plot.cutDay + 1; d <= LAST_DAY; d++) {
            suns = rainy[d] ? Math.max(suns - 1, 0) : suns + 1;
            if (suns == SUNS_TO_DRY) {
                return d;
            }
        }
        return LOST;
    }

    private int inBarn(Plot plot) {
        int end = dryDay(plot);
        if (end == LOST) {
            return 0;
        }
        int left = plot.hay();
        for (int d = plot.cutDay + 1; d <= end; d++) {
            if (rainy[d]) {
                left -= left / 10;
            }
        }
        return left;
    }

    private int keepPlot(Shelf shelf, int plot) {
        if (!isPlot(plot)) {
            return WRONG;
        }
        shelf.holds = A_PLOT;
        shelf.plot = plot;
        shelf.ground = plots[plot].ground;
        shelf.grass = plots[plot].grass;
        return 0;
    }

    private int keepWorths(Shelf shelf, int buyer) {
        if (!isBuyer(buyer)) {
            return WRONG;
        }
        shelf.takeRow(INTS, PLOTS);
        for (int p = 0; p < PLOTS; p++) {
            shelf.ints[p] = worthTo(buyer, p);
        }
        return 0;
    }

    private int keepOwners(Shelf shelf) {
        shelf.takeRow(BYTES, PLOTS);
        for (int p = 0; p < PLOTS; p++) {
            shelf.bytes[p] = (byte) (plots[p].isSold() ? plots[p].owner : -1);
        }
        return 0;
    }

    /** 0 if a plot is held on shelf d. */
    private int refusalOfPlotOn(int d) {
        if (!isShelf(d)) {
            return WRONG;
        }
        if (shelves[d].holds == NOTHING) {
            return HOLDS_NOTHING;
        }
        return shelves[d].holds == A_PLOT ? 0 : OTHER_KIND;
    }

    private static boolean isThrown(Dry ground) {
        try {
            ground.fail();
        } catch (IllegalStateException failure) {
            return true;
        }
        return false;
    }

    /** The ground of a plot: each kind stands under the one that it is told from. */
    static class Dry {
        int chance() {
            return DRY_CHANCE;
        }

        int heft(int grass) {
            return 10 + grass;
        }

        /** Dry ground has no failure to throw. */
        void fail() {
        }
    }

    static class Wet extends Dry {
        int chance() {
            return WET_CHANCE;
        }

        int heft(int grass) {
            return super.heft(grass) + chance();
        }

        void fail() {
            throw new IllegalStateException("the ground is wet");
        }
    }

    static final class Flooded extends Wet {
        int chance() {
            return FLOODED_CHANCE;
        }

        int heft(int grass) {
            return 2 * super.heft(grass);
        }

        void fail() {
            throw new IllegalStateException("the ground is flooded");
        }
    }

    static final class High extends Dry {
        int chance() {
            return HIGH_CHANCE;
        }

        int heft(int grass) {
            return super.heft(grass) + 100;
        }

        void fail() {
            throw new IllegalStateException("the ground is high");
        }
    }

    static final class Plot {
        int kind;
        Dry ground;
        int grass;
        int owner = NONE;
        int price = NONE;
        int cutDay = NONE;

        Plot(Dry ground) {
            this.ground = ground;
        }

        int hay() {
            return grass * ground.chance() / 100;
        }

        boolean isSold() {
            return owner != NONE;
        }

        boolean isCut() {
            return cutDay != NONE;
        }

        boolean stands() {
            return isSold() && !isCut() && grass > 0;
        }

        /** What is trampled of it, if somebody goes over it. */
        int toll() {
            return stands() ? grass / 10 : 0;
        }

        /** The plot beyond one of the four sides of a plot, -1 if the meadow ends there. */
        static int beside(int plot, int side) {
            int x = plot % WIDTH;
            switch (side) {
                case 0: return x > 0 ? plot - 1 : -1;
                case 1: return x < WIDTH - 1 ? plot + 1 : -1;
                case 2: return plot >= WIDTH ? plot - WIDTH : -1;
                default: return plot < PLOTS - WIDTH ? plot + WIDTH : -1;
            }
        }

        static int steps(int a, int b) {
            return Math.abs(a % WIDTH - b % WIDTH) + Math.abs(a / WIDTH - b / WIDTH);
        }
    }

    static final class Buyer {
        int cows;
        int purse;
        int home;
        int debt;
        int trampled;
        boolean waits;
        int surety = NONE;

        int need() {
            return 12 * cows;
        }

        int owes() {
            return debt + LOAD_FINE * trampled;
        }
    }

    /** One plot up for sale: what each buyer would give for it, by the candle and by lots. */
    static final class Sale {
        final int[] caps = new int[MOST_BUYERS];
        final boolean[] waiting = new boolean[MOST_BUYERS];
        int count;
        int step;
        int bidder = NONE;
        int bid;

        /** Burns a candle, with first one of the buyers: bidder and bid are the last ones. */
        void burn(int breaths, int first) {
            bidder = NONE;
            bid = 0;
            int turn = first;
            for (int b = 0; b < breaths; b++) {
                boolean speaks = !waiting[turn] || breaths - b <= 3 * count;
                if (speaks && turn != bidder && bid + step <= caps[turn]) {
                    bidder = turn;
                    bid += step;
                }
                turn = turn + 1 < count ? turn + 1 : 0;
            }
        }

        int lotTaker() {
            return greatestBut(NONE);
        }

        int lotPrice(int taker) {
            if (taker == NONE) {
                return 0;
            }
            int next = greatestBut(taker);
            return next == NONE ? step : Math.min(caps[taker], caps[next] + step);
        }

        /** The first of those with the greatest cap of a step or more, one buyer left out. */
        private int greatestBut(int out) {
            int greatest = NONE;
            for (int b = 0; b < count; b++) {
                boolean may = b != out && caps[b] >= step;
                if (may && (greatest == NONE || caps[b] > caps[greatest])) {
                    greatest = b;
                }
            }
            return greatest;
        }
    }

    /** The ways to the gate that trample the least. */
    static final class Ways {
        private static final int FAR = 1000000;

        private final int[] tolls = new int[PLOTS];
        /** The least sum of tolls from the gate to a plot, its own toll among them. */
        private final int[] sums = new int[PLOTS];

        int trampled(Plot[] plots, int plot) {
            for (int p = 0; p < PLOTS; p++) {
                tolls[p] = plots[p].toll();
            }
            spread();
            return sums[plot] - tolls[plot];
        }

        /** PLOTS rounds are enough: each settles all least ways of one plot more. */
        private void spread() {
            Arrays.fill(sums, FAR);
            sums[GATE] = tolls[GATE];
            boolean changed = true;
            for (int round = 0; round < PLOTS && changed; round++) {
                changed = false;
                for (int p = 0; p < PLOTS; p++) {
                    int sum = leastBeside(p) + tolls[p];
                    if (sum < sums[p]) {
                        sums[p] = sum;
                        changed = true;
                    }
                }
            }
        }

        private int leastBeside(int plot) {
            int sum = FAR;
            for (int side = 0; side < SIDES; side++) {
                int beside = Plot.beside(plot, side);
                if (beside >= 0) {
                    sum = Math.min(sum, sums[beside]);
                }
            }
            return sum;
        }
    }

    /** The day of paying, told without a coin being moved. */
    static final class Martinmas {
        final int[] paid = new int[MOST_BUYERS];
        final int[] helped = new int[MOST_BUYERS];
        private final int[] left = new int[MOST_BUYERS];

        void settle(Buyer[] buyers, int count) {
            for (int b = 0; b < count; b++) {
                paid[b] = Math.min(buyers[b].owes(), buyers[b].purse);
                left[b] = buyers[b].purse - paid[b];
                helped[b] = 0;
            }
            for (int b = 0; b < count; b++) {
                int surety = buyers[b].surety;
                if (surety >= 0 && surety < count) {
                    helped[b] = Math.min(buyers[b].owes() - paid[b], left[surety]);
                    left[surety] -= helped[b];
                }
            }
        }
    }

    /** Its rows are made once and used again, with size telling how much of them counts. */
    static final class Shelf {
        int holds = NOTHING;
        int plot;
        Dry ground;
        int grass;
        final int[] ints = new int[MOST_ELEMENTS];
        final byte[] bytes = new byte[MOST_ELEMENTS];
        int size;

        Shelf(Dry ground) {
            this.ground = ground;
        }

        boolean isRow() {
            return holds == INTS || holds == BYTES;
        }

        void takeRow(int kind, int n) {
            holds = kind;
            size = n;
            Arrays.fill(ints, 0);
            Arrays.fill(bytes, (byte) 0);
        }

        /** Whether a row has n places from place i on; i + n might wrap around, the difference can't. */
        boolean hasPlaces(int i, int n) {
            return n >= 0 && i >= 0 && i <= size && n <= size - i;
        }
    }
}
