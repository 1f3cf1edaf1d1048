/** Feeds mixed at least cost, under bounds, in exact fractions; README.md says how to use it. */
public final class FeedMixes {

    public static final int NONE = -1;

    private static final int STUFFS = 4;
    private static final int NUTRIENTS = 3;
    private static final int TENTHS = 10;

    private static final int MOST_PRICE = 1000;
    private static final int MOST_STOCK = 40;
    private static final int MOST_POINTS = 40;
    private static final int MOST_WEIGHT = 40;
    private static final int LEAST_SILO = 5;
    private static final int MOST_SILO = 40;
    private static final int MEDICINES = 3;

    // A bound's number is where its kind begins, plus its stuff or nutrient.
    private static final int LEAST_SHARES = 4;
    private static final int MOST_SHARES = 8;
    private static final int LEAST_NEEDS = 12;
    private static final int MOST_NEEDS = 15;
    private static final int BOUNDS = 18;

    // A row is what a bound speaks of: the amount of a stuff, then all of a nutrient.
    private static final int ROWS = STUFFS + NUTRIENTS;

    // All stuffs together weigh what is told, so one amount follows from the others.
    private static final int FREE = STUFFS - 1;

    private static final int NO_RUN = -1;
    private static final int MADE = 0;
    private static final int CLASHED = 1;
    private static final int NOT_GOOD = 2;

    // Euclid's steps for two longs are fewer than this.
    private static final int MOST_STEPS = 100;

    private final Told told = new Told();
    private final Mixer mixer = new Mixer(told);

    private int lastAnswer = NO_RUN;
    private int lastWeight = 0;
    private int lastStuffs = 0;
    private int lastTight = 0;
    private int lastClash = 0;
    private final Mix lastMix = new Mix();

    private final Mix mixNow = new Mix();
    private final Mix mixThen = new Mix();

    private int medicineOnLine = 0;
    private int mixesOverLine = 0;

    public FeedMixes() {
    }

    public int stuff(int price, int stock) {
        if (told.stuffs >= STUFFS || !isPrice(price) || !isStock(stock)) {
            return NONE;
        }
        int stuff = told.stuffs;
        told.price[stuff] = price;
        told.stock[stuff] = stock;
        told.mostShare[stuff] = TENTHS;
        told.stuffs = stuff + 1;
        return stuff;
    }

    public int price(int stuff, int price) {
        if (!isStuff(stuff) || !isPrice(price)) {
            return NONE;
        }
        int was = told.price[stuff];
        told.price[stuff] = price;
        return was;
    }

    public int stock(int stuff, int stock) {
        if (!isStuff(stuff) || !isStock(stock)) {
            return NONE;
        }
        int was = told.stock[stuff];
        told.stock[stuff] = stock;
        return was;
    }

    public boolean holds(int stuff, int nutrient, int points) {
        if (!isStuff(stuff) || !isNutrient(nutrient) || !isWithin(points, 0, MOST_POINTS)) {
            return false;
        }
        told.points[nutrient][stuff] = points;
        return true;
    }

    public boolean need(int nutrient, int least, int most) {
        if (!isNutrient(nutrient) || !isRange(least, most, MOST_POINTS)) {
            return false;
        }
        told.leastNeed[nutrient] = least;
        told.mostNeed[nutrient] = most;
        return true;
    }

    public boolean shares(int stuff, int least, int most) {
        if (!isStuff(stuff) || !isRange(least, most, TENTHS)) {
            return false;
        }
        told.leastShare[stuff] = least;
        told.mostShare[stuff] = most;
        return true;
    }

    public boolean silo(int stuff, int size) {
        if (!isStuff(stuff) || (size != 0 && !isWithin(size, LEAST_SILO, MOST_SILO))) {
            return false;
        }
        told.silo[stuff] = size;
        return true;
    }

    public int run(int w) {
        if (!isWithin(w, 1, MOST_WEIGHT) || told.stuffs == 0) {
            return NONE;
        }
        lastWeight = w;
        lastStuffs = told.stuffs;
        lastTight = 0;
        lastClash = 0;
        if (mixer.findBest(w, lastMix)) {
            lastAnswer = MADE;
            lastTight = mixer.tightBounds(lastMix);
        } else if (mixer.canKeepBounds(w)) {
            lastAnswer = NOT_GOOD;
        } else {
            lastAnswer = CLASHED;
            lastClash = mixer.clashingBounds(w);
        }
        return lastAnswer;
    }

    public long amount(int stuff, int part) {
        if (lastAnswer != MADE || !isWithin(stuff, 0, lastStuffs - 1)) {
            return NONE;
        }
        return partOf(lastMix.amount[stuff], TENTHS * lastMix.under, part);
    }

    public long cost(int part) {
        if (lastAnswer != MADE) {
            return NONE;
        }
        return partOf(lastMix.price, TENTHS * lastMix.under, part);
    }

    public int tight() {
        return lastAnswer == MADE ? lastTight : NONE;
    }

    public int clash(int k) {
        if (lastAnswer != CLASHED || k < 0) {
            return NONE;
        }
        int before = k;
        for (int bound = 0; bound < BOUNDS; bound++) {
            if (hasBound(lastClash, bound)) {
                if (before == 0) {
                    return bound;
                }
                before--;
            }
        }
        return NONE;
    }

    public long dearer(int nutrient, int part) {
        if (lastAnswer == NO_RUN || !isNutrient(nutrient)) {
            return NONE;
        }
        int least = told.leastNeed[nutrient];
        if (least >= told.mostNeed[nutrient] || !mixer.findBest(lastWeight, mixNow)) {
            return NONE;
        }
        told.leastNeed[nutrient] = least + 1;
        boolean canThen = mixer.findBest(lastWeight, mixThen);
        told.leastNeed[nutrient] = least;
        if (!canThen) {
            return NONE;
        }
        long more = mixThen.price * mixNow.under - mixNow.price * mixThen.under;
        return partOf(more, TENTHS * mixNow.under * mixThen.under, part);
    }

    public int line(int medicine) {
        if (!isWithin(medicine, 0, MEDICINES) || lastAnswer != MADE) {
            return NONE;
        }
        if (medicineOnLine != 0 && medicineOnLine != medicine) {
            return 1;
        }
        medicineOnLine = medicine;
        mixesOverLine++;
        return 0;
    }

    public int clean() {
        int was = medicineOnLine;
        medicineOnLine = 0;
        return was;
    }

    public int made() {
        return mixesOverLine;
    }

    private boolean isStuff(int stuff) {
        return isWithin(stuff, 0, told.stuffs - 1);
    }

    private static boolean isNutrient(int nutrient) {
        return isWithin(nutrient, 0, NUTRIENTS - 1);
    }

    private static boolean isPrice(int price) {
        return isWithin(price, 0, MOST_PRICE);
    }

    private static boolean isStock(int stock) {
        return isWithin(stock, 0, MOST_STOCK);
    }

    private static boolean isRange(int least, int most, int limit) {
        return least >= 0 && least <= most && most <= limit;
    }

    private static boolean isWithin(int number, int least, int most) {
        return number >= least && number <= most;
    }

    private static boolean hasBound(int bounds, int bound) {
        return (bounds >> bound & 1) != 0;
    }

    private static int rowOf(int bound) {
        return bound < LEAST_NEEDS ? bound % STUFFS : STUFFS + (bound - LEAST_NEEDS) % NUTRIENTS;
    }

    private static boolean isLeast(int bound) {
        return isWithin(bound, LEAST_SHARES, MOST_SHARES - 1) || isWithin(bound, LEAST_NEEDS, MOST_NEEDS - 1);
    }

    /** A part of a fraction not below 0, in lowest terms. */
    private static long partOf(long above, long below, int part) {
        long common = commonDivisor(above, below);
        if (common <= 0 || !isWithin(part, 0, 1)) {
            return NONE;
        }
        return part == 0 ? above / common : below / common;
    }

    private static long commonDivisor(long one, long other) {
        long larger = one;
        long smaller = other;
        for (int step = 0; step < MOST_STEPS && smaller != 0; step++) {
            long rest = larger % smaller;
            larger = smaller;
            smaller = rest;
        }
        return larger;
    }

    /** What has been told of stuffs and needs. */
    private static final class Told {
        private int stuffs = 0;
        private final int[] price = new int[STUFFS];
        private final int[] stock = new int[STUFFS];
        private final int[] leastShare = new int[STUFFS];
        private final int[] mostShare = new int[STUFFS];
        private final int[] silo = new int[STUFFS];
        private final int[][] points = new int[NUTRIENTS][STUFFS];
        private final int[] leastNeed = new int[NUTRIENTS];
        private final int[] mostNeed = {MOST_POINTS, MOST_POINTS, MOST_POINTS};
    }

    /** Amounts in tenths of a kilogram, and their price in tenths, each to be divided by what is under them. */
    private static final class Mix {
        private final long[] amount = new long[STUFFS];
        private long price = 0;
        private long under = 0;

        private boolean isNone() {
            return under == 0;
        }

        private void forget() {
            under = 0;
        }

        private void become(Mix other) {
            for (int stuff = 0; stuff < STUFFS; stuff++) {
                amount[stuff] = other.amount[stuff];
            }
            price = other.price;
            under = other.under;
        }

        private boolean isBetterThan(Mix other) {
            if (other.under == 0) {
                return true;
            }
            int order = Long.compare(price * other.under, other.price * under);
            for (int stuff = 0; stuff < STUFFS && order == 0; stuff++) {
                order = Long.compare(amount[stuff] * other.under, other.amount[stuff] * under);
            }
            return order < 0;
        }
    }

    /** Between what each row must lie, in tenths, for a mix of a weight to keep the bounds that are kept. */
    private static final class Limits {
        private final Told told;
        private int weight = 0;
        private int whole = 0;
        private int kept = 0;
        private final int[] low = new int[ROWS];
        private final int[] high = new int[ROWS];
        // Beyond these no mix can go, whatever bounds are kept.
        private final int[] floor = new int[ROWS];
        private final int[] ceiling = new int[ROWS];

        private Limits(Told told) {
            this.told = told;
        }

        private void keepAll(int weightNow) {
            weight = weightNow;
            whole = TENTHS * weightNow;
            kept = 0;
            for (int row = 0; row < ROWS; row++) {
                setEnds(row);
            }
            for (int bound = 0; bound < BOUNDS; bound++) {
                if (isThere(bound)) {
                    keep(bound);
                }
            }
        }

        private void keep(int bound) {
            kept |= 1 << bound;
            int row = rowOf(bound);
            if (isLeast(bound)) {
                low[row] = Math.max(low[row], levelOf(bound));
            } else {
                high[row] = Math.min(high[row], levelOf(bound));
            }
        }

        /** Leaves a bound out, and tells if this gave its row more room. */
        private boolean leaveOut(int bound) {
            int row = rowOf(bound);
            int lowWas = low[row];
            int highWas = high[row];
            int others = kept & ~(1 << bound);
            kept = others;
            low[row] = floor[row];
            high[row] = ceiling[row];
            for (int other = 0; other < BOUNDS; other++) {
                if (hasBound(others, other) && rowOf(other) == row) {
                    keep(other);
                }
            }
            return low[row] != lowWas || high[row] != highWas;
        }

        /** The bounds that are kept and leave a row no room at all need no search. */
        private boolean crossEachOther() {
            for (int row = 0; row < ROWS; row++) {
                if (low[row] > high[row]) {
                    return true;
                }
            }
            return false;
        }

        private boolean isThere(int bound) {
            int row = rowOf(bound);
            return row >= STUFFS || row < told.stuffs;
        }

        private int levelOf(int bound) {
            int row = rowOf(bound);
            if (bound < LEAST_SHARES) {
                return TENTHS * told.stock[row];
            }
            if (bound < MOST_SHARES) {
                return weight * told.leastShare[row];
            }
            if (bound < LEAST_NEEDS) {
                return weight * told.mostShare[row];
            }
            int[] needs = bound < MOST_NEEDS ? told.leastNeed : told.mostNeed;
            return whole * needs[row - STUFFS];
        }

        private void setEnds(int row) {
            if (row < STUFFS) {
                floor[row] = 0;
                ceiling[row] = row < told.stuffs ? whole : 0;
            } else {
                setEndsOfNutrient(row, told.points[row - STUFFS]);
            }
            low[row] = floor[row];
            high[row] = ceiling[row];
        }

        private void setEndsOfNutrient(int row, int[] points) {
            int fewest = MOST_POINTS;
            int most = 0;
            for (int stuff = 0; stuff < told.stuffs; stuff++) {
                fewest = Math.min(fewest, points[stuff]);
                most = Math.max(most, points[stuff]);
            }
            floor[row] = whole * fewest;
            ceiling[row] = whole * most;
        }
    }

    /**
     * The corners of the space of mixes within limits. The space has an end on every side, so there is a mix only if
     * there is a corner; and of the cheapest mixes the first is a corner.
     */
    private static final class Corners {
        private final Told told;
        private final Limits limits;
        // What a row is if all is of the last stuff, and how it grows with each free amount, which that one loses.
        private final int[][] slope = new int[ROWS][FREE];
        private final int[] whenAllIsLast = new int[ROWS];
        // Planes are rows at a level; the first ones, of stuffs with but one amount, meet in every corner.
        private final int[] planeRow = new int[2 * ROWS];
        private final int[] planeLevel = new int[2 * ROWS];
        private int planes = 0;
        private int inEvery = 0;
        private final long[] crossAB = new long[FREE];
        private final long[] crossBC = new long[FREE];
        private final long[] crossCA = new long[FREE];
        private final Mix corner = new Mix();

        private Corners(Told told, Limits limits) {
            this.told = told;
            this.limits = limits;
        }

        private void setSlopes() {
            for (int row = 0; row < ROWS; row++) {
                for (int stuff = 0; stuff < FREE; stuff++) {
                    slope[row][stuff] = pointsOf(row, stuff) - pointsOf(row, FREE);
                }
                whenAllIsLast[row] = pointsOf(row, FREE) * limits.whole;
            }
        }

        private int pointsOf(int row, int stuff) {
            if (row < STUFFS) {
                return row == stuff ? 1 : 0;
            }
            return told.points[row - STUFFS][stuff];
        }

        /** Is there a corner? With a best mix all are gone over, to better it; without, the first is enough. */
        private boolean seek(Mix best) {
            if (limits.crossEachOther()) {
                return false;
            }
            setPlanes();
            boolean found = false;
            for (int a = 0; a < (inEvery > 0 ? 1 : planes); a++) {
                for (int b = a + 1; b < (inEvery > 1 ? 2 : planes); b++) {
                    cross(a, b, crossAB);
                    for (int c = b + 1; c < (inEvery > 2 ? 3 : planes); c++) {
                        if (meet(a, b, c) && isWithinLimits()) {
                            if (best == null) {
                                return true;
                            }
                            offer(best);
                            found = true;
                        }
                    }
                }
            }
            return found;
        }

        private void setPlanes() {
            planes = 0;
            for (int row = 0; row < STUFFS; row++) {
                if (limits.low[row] == limits.high[row]) {
                    addPlane(row, limits.low[row]);
                }
            }
            inEvery = planes;
            for (int row = 0; row < STUFFS; row++) {
                if (limits.low[row] != limits.high[row]) {
                    addPlane(row, limits.low[row]);
                    addHighPlane(row);
                }
            }
            for (int row = STUFFS; row < ROWS; row++) {
                if (limits.low[row] > limits.floor[row]) {
                    addPlane(row, limits.low[row]);
                }
                addHighPlane(row);
            }
        }

        // What no mix can pass makes no corner that other planes do not make.
        private void addHighPlane(int row) {
            if (limits.high[row] < limits.ceiling[row]) {
                addPlane(row, limits.high[row]);
            }
        }

        private void addPlane(int row, int level) {
            if (planes < planeRow.length) {
                planeRow[planes] = row;
                planeLevel[planes] = level - whenAllIsLast[row];
                planes++;
            }
        }

        private void cross(int one, int other, long[] into) {
            int[] p = slope[planeRow[one]];
            int[] q = slope[planeRow[other]];
            into[0] = p[1] * q[2] - p[2] * q[1];
            into[1] = p[2] * q[0] - p[0] * q[2];
            into[2] = p[0] * q[1] - p[1] * q[0];
        }

        /** Sets the corner to where three planes meet, by Cramer's rule; false if that is not one point. */
        private boolean meet(int a, int b, int c) {
            int[] last = slope[planeRow[c]];
            long under = crossAB[0] * last[0] + crossAB[1] * last[1] + crossAB[2] * last[2];
            if (under == 0) {
                return false;
            }
            cross(b, c, crossBC);
            cross(c, a, crossCA);
            int sign = under < 0 ? -1 : 1;
            corner.under = sign * under;
            long rest = limits.whole * corner.under;
            for (int stuff = 0; stuff < FREE; stuff++) {
                long above = planeLevel[a] * crossBC[stuff] + planeLevel[b] * crossCA[stuff]
                        + planeLevel[c] * crossAB[stuff];
                corner.amount[stuff] = sign * above;
                rest -= sign * above;
            }
            corner.amount[FREE] = rest;
            return true;
        }

        private boolean isWithinLimits() {
            for (int row = 0; row < ROWS; row++) {
                long much = allOf(row, corner);
                if (much < limits.low[row] * corner.under || much > limits.high[row] * corner.under) {
                    return false;
                }
            }
            return true;
        }

        private long allOf(int row, Mix mix) {
            if (row < STUFFS) {
                return mix.amount[row];
            }
            return sum(told.points[row - STUFFS], mix);
        }

        private void offer(Mix best) {
            corner.price = sum(told.price, corner);
            if (corner.isBetterThan(best)) {
                best.become(corner);
            }
        }

        private static long sum(int[] each, Mix mix) {
            long all = 0;
            for (int stuff = 0; stuff < STUFFS; stuff++) {
                all += each[stuff] * mix.amount[stuff];
            }
            return all;
        }
    }

    /** Finds best mixes, and bounds that are tight or clash. */
    private static final class Mixer {
        private final Told told;
        private final Limits limits;
        private final Corners corners;

        private Mixer(Told told) {
            this.told = told;
            this.limits = new Limits(told);
            this.corners = new Corners(told, limits);
        }

        private void begin(int weight) {
            limits.keepAll(weight);
            corners.setSlopes();
        }

        private boolean findBest(int weight, Mix best) {
            begin(weight);
            best.forget();
            fillFromSilos(this, 0, limits.whole, best);
            return !best.isNone();
        }

        /** Tries every number of whole silos of this stuff and the next ones, of what is left to fill. */
        private static void fillFromSilos(Mixer mixer, int stuff, int left, Mix best) {
            if (stuff >= mixer.told.stuffs || stuff >= STUFFS) {
                mixer.corners.seek(best);
                return;
            }
            int size = TENTHS * mixer.told.silo[stuff];
            if (size <= 0) {
                fillFromSilos(mixer, stuff + 1, left, best);
                return;
            }
            Limits limits = mixer.limits;
            int low = limits.low[stuff];
            int high = limits.high[stuff];
            for (int much = 0; much <= left && much <= high; much += size) {
                if (much >= low) {
                    limits.low[stuff] = much;
                    limits.high[stuff] = much;
                    fillFromSilos(mixer, stuff + 1, left - much, best);
                }
            }
            limits.low[stuff] = low;
            limits.high[stuff] = high;
        }

        private boolean canKeepBounds(int weight) {
            begin(weight);
            return corners.seek(null);
        }

        private int clashingBounds(int weight) {
            begin(weight);
            for (int bound = 0; bound < BOUNDS; bound++) {
                if (hasBound(limits.kept, bound) && limits.leaveOut(bound) && corners.seek(null)) {
                    limits.keep(bound);
                }
            }
            return limits.kept;
        }

        /** Of the mix that was found last. */
        private int tightBounds(Mix mix) {
            int tight = 0;
            for (int bound = 0; bound < BOUNDS; bound++) {
                if (limits.isThere(bound)
                        && corners.allOf(rowOf(bound), mix) == limits.levelOf(bound) * mix.under) {
                    tight |= 1 << bound;
                }
            }
            return tight;
        }
    }
}
