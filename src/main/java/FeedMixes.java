/** Feeds mixed at least cost, under bounds, in exact fractions; README.md says how to use it. */
public final class FeedMixes {

    public static final int NONE = -1;

    private static final int STUFFS = 4;
    private static final int NUTRIENTS = 3;
    private static final int TENTHS = 10;

    private static final int MOST_PRICE = 1000;
    private static final int MOST_STOCK = 40;
    private static final int MOST_POINTS = 40;
    private static final int MOST_WEIGHT = 40;
    private static final int LEAST_SILO = 5;
    private static final int MOST_SILO = 40;
    private static final int MEDICINES = 3;

    // A bound's number is the first of its kind plus its stuff or nutrient; stocks begin at 0.
    private static final int FIRST_LEAST_SHARE = 4;
    private static final int FIRST_MOST_SHARE = 8;
    private static final int FIRST_LEAST_NEED = 12;
    private static final int FIRST_MOST_NEED = 15;
    private static final int BOUNDS = 18;

    // A row is what a bound speaks of: the amount of a stuff, then all of a nutrient.
    private static final int ROWS = STUFFS + NUTRIENTS;

    // All stuffs together weigh what is told, so one amount follows from the others.
    private static final int FREE = STUFFS - 1;

    private static final int NO_RUN = -1;
    private static final int MADE = 0;
    private static final int CLASHED = 1;
    private static final int NOT_GOOD = 2;

    // Euclid needs fewer steps for any two longs.
    private static final int MOST_STEPS = 100;

    private final Told told = new Told();
    private final Mixer mixer = new Mixer(told);

    private int lastAnswer = NO_RUN;
    private int lastWeight = 0;
    private int lastStuffs = 0;
    private int lastTight = 0;
    private int lastClash = 0;
    private final Mix lastMix = new Mix();

    private final Mix mixNow = new Mix();
    private final Mix mixThen = new Mix();

    private int medicineOnLine = 0;
    private int mixesOverLine = 0;

    public FeedMixes() {
    }

    public int stuff(int price, int stock) {
        if (told.stuffs >= STUFFS || !isPrice(price) || !isStock(stock)) {
            return NONE;
        }
        int stuff = told.stuffs;
        told.price[stuff] = price;
        told.stock[stuff] = stock;
        told.mostShare[stuff] = TENTHS;
        told.stuffs = stuff + 1;
        return stuff;
    }

    public int price(int stuff, int price) {
        if (!isStuff(stuff) || !isPrice(price)) {
            return NONE;
        }
        int was = told.price[stuff];
        told.price[stuff] = price;
        return was;
    }

    public int stock(int stuff, int stock) {
        if (!isStuff(stuff) || !isStock(stock)) {
            return NONE;
        }
        int was = told.stock[stuff];
        told.stock[stuff] = stock;
        return was;
    }

    public boolean holds(int stuff, int nutrient, int points) {
        if (!isStuff(stuff) || !isNutrient(nutrient) || !isWithin(points, 0, MOST_POINTS)) {
            return false;
        }
        told.points[nutrient][stuff] = points;
        return true;
    }

    public boolean need(int nutrient, int least, int most) {
        if (!isNutrient(nutrient) || !isRange(least, most, MOST_POINTS)) {
            return false;
        }
        told.leastNeed[nutrient] = least;
        told.mostNeed[nutrient] = most;
        return true;
    }

    public boolean shares(int stuff, int least, int most) {
        if (!isStuff(stuff) || !isRange(least, most, TENTHS)) {
            return false;
        }
        told.leastShare[stuff] = least;
        told.mostShare[stuff] = most;
        return true;
    }

    public boolean silo(int stuff, int size) {
        if (!isStuff(stuff) || (size != 0 && !isWithin(size, LEAST_SILO, MOST_SILO))) {
            return false;
        }
        told.silo[stuff] = size;
        return true;
    }

    public int run(int w) {
        if (!isWithin(w, 1, MOST_WEIGHT) || told.stuffs == 0) {
            return NONE;
        }
        lastWeight = w;
        lastStuffs = told.stuffs;
        lastTight = 0;
        lastClash = 0;
        if (mixer.findBest(w, lastMix)) {
            lastAnswer = MADE;
            lastTight = mixer.tightBounds(lastMix);
        } else if (mixer.canKeepBounds(w)) {
            lastAnswer = NOT_GOOD;
        } else {
            lastAnswer = CLASHED;
            lastClash = mixer.clashingBounds(w);
        }
        return lastAnswer;
    }

    public long amount(int stuff, int part) {
        if (lastAnswer != MADE || !isWithin(stuff, 0, lastStuffs - 1)) {
            return NONE;
        }
        return partOf(lastMix.amount[stuff], TENTHS * lastMix.under, part);
    }

    public long cost(int part) {
        if (lastAnswer != MADE) {
            return NONE;
        }
        return partOf(lastMix.price, TENTHS * lastMix.under, part);
    }

    public int tight() {
        return lastAnswer == MADE ? lastTight : NONE;
    }

    public int clash(int k) {
        if (lastAnswer != CLASHED || k < 0) {
            return NONE;
        }
        int before = k;
        for (int bound = 0; bound < BOUNDS; bound++) {
            if (hasBound(lastClash, bound)) {
                if (before == 0) {
                    return bound;
                }
                before--;
            }
        }
        return NONE;
    }

    public long dearer(int nutrient, int part) {
        if (lastAnswer == NO_RUN || !isNutrient(nutrient)) {
            return NONE;
        }
        int least = told.leastNeed[nutrient];
        if (least >= told.mostNeed[nutrient] || !mixer.findBest(lastWeight, mixNow)) {
            return NONE;
        }
        // The need is put back below: nothing may be changed by the question.
        told.leastNeed[nutrient] = least + 1;
        boolean canThen = mixer.findBest(lastWeight, mixThen);
        told.leastNeed[nutrient] = least;
        if (!canThen) {
            return NONE;
        }
        long more = mixThen.price * mixNow.under - mixNow.price * mixThen.under;
        return partOf(more, TENTHS * mixNow.under * mixThen.under, part);
    }

    public int line(int medicine) {
        if (!isWithin(medicine, 0, MEDICINES) || lastAnswer != MADE) {
            return NONE;
        }
        if (medicineOnLine != 0 && medicineOnLine != medicine) {
            return 1;
        }
        medicineOnLine = medicine;
        mixesOverLine++;
        return 0;
    }

    public int clean() {
        int was = medicineOnLine;
        medicineOnLine = 0;
        return was;
    }

    public int made() {
        return mixesOverLine;
    }

    private boolean isStuff(int stuff) {
        return isWithin(stuff, 0, told.stuffs - 1);
    }

    private static boolean isNutrient(int nutrient) {
        return isWithin(nutrient, 0, NUTRIENTS - 1);
    }

    private static boolean isPrice(int price) {
        return isWithin(price, 0, MOST_PRICE);
    }

    private static boolean isStock(int stock) {
        return isWithin(stock, 0, MOST_STOCK);
    }

    private static boolean isRange(int least, int most, int limit) {
        return least >= 0 && least <= most && most <= limit;
    }

    private static boolean isWithin(int number, int least, int most) {
        return number >= least && number <= most;
    }

    private static boolean hasBound(int bounds, int bound) {
        return (bounds >> bound & 1) != 0;
    }

    private static int rowOf(int bound) {
        return bound < FIRST_LEAST_NEED ? bound % STUFFS : STUFFS + (bound - FIRST_LEAST_NEED) % NUTRIENTS;
    }

    private static boolean isLeast(int bound) {
        return isWithin(bound, FIRST_LEAST_SHARE, FIRST_MOST_SHARE - 1)
                || isWithin(bound, FIRST_LEAST_NEED, FIRST_MOST_NEED - 1);
    }

    /** A part of a fraction not below 0, in lowest terms. */
    private static long partOf(long above, long below, int part) {
        long common = commonDivisor(above, below);
        if (common <= 0 || !isWithin(part, 0, 1)) {
            return NONE;
        }
        return part == 0 ? above / common : below / common;
    }

    private static long commonDivisor(long one, long other) {
        long larger = one;
        long smaller = other;
        for (int step = 0; step < MOST_STEPS && smaller != 0; step++) {
            long rest = larger % smaller;
            larger = smaller;
            smaller = rest;
        }
        return larger;
    }

    /** What has been told of stuffs and needs. */
    private static final class Told {
        private int stuffs = 0;
        private final int[] price = new int[STUFFS];
        private final int[] stock = new int[STUFFS];
        private final int[] leastShare = new int[STUFFS];
        private final int[] mostShare = new int[STUFFS];
        private final int[] silo = new int[STUFFS];
        private final int[][] points = new int[NUTRIENTS][STUFFS];
        private final int[] leastNeed = new int[NUTRIENTS];
        private final int[] mostNeed = {MOST_POINTS, MOST_POINTS, MOST_POINTS};
    }

    /** Amounts in tenths of a kilogram, and their price in tenths, each to be divided by what is under them. */
    private static final class Mix {
        private final long[] amount = new long[STUFFS];
        private long price = 0;
        private long under = 0;

        private boolean isNone() {
            return under == 0;
        }

        private void forget() {
            under = 0;
        }

        private void become(Mix other) {
            for (int stuff = 0; stuff < STUFFS; stuff++) {
                amount[stuff] = other.amount[stuff];
            }
            price = other.price;
            under = other.under;
        }

        private boolean isBetterThan(Mix other) {
            if (other.under == 0) {
                return true;
            }
            int order = Long.compare(price * other.under, other.price * under);
            for (int stuff = 0; stuff < STUFFS && order == 0; stuff++) {
                order = Long.compare(amount[stuff] * other.under, other.amount[stuff] * under);
            }
            return order < 0;
        }

        private long sum(int[] each) {
            return each[0] * amount[0] + each[1] * amount[1] + each[2] * amount[2] + each[3] * amount[3];
        }
    }

    /** Between what each row must lie, in tenths, for a mix of a weight to keep the bounds that are kept. */
    private static final class Limits {
        private final Told told;
        private int weight = 0;
        private int whole = 0;
        private int kept = 0;
        private final int[] low = new int[ROWS];
        private final int[] high = new int[ROWS];
        private final int[][] leanFirst = new int[NUTRIENTS][STUFFS];

        private Limits(Told told) {
            this.told = told;
        }

        private void keepAll(int weightNow) {
            weight = weightNow;
            whole = TENTHS * weightNow;
            kept = 0;
            for (int row = 0; row < ROWS; row++) {
                widen(row);
            }
            for (int bound = 0; bound < BOUNDS; bound++) {
                if (isThere(bound)) {
                    keep(bound);
                }
            }
            for (int nutrient = 0; nutrient < NUTRIENTS; nutrient++) {
                sortByPoints(leanFirst[nutrient], told.points[nutrient]);
            }
        }

        private static void sortByPoints(int[] stuffs, int[] points) {
            for (int stuff = 0; stuff < STUFFS; stuff++) {
                int place = stuff;
                while (place > 0 && points[stuffs[place - 1]] > points[stuff]) {
                    stuffs[place] = stuffs[place - 1];
                    place--;
                }
                stuffs[place] = stuff;
            }
        }

        /** Gives a row the room that it has in every mix, whatever bounds are kept. */
        private void widen(int row) {
            low[row] = 0;
            if (row >= STUFFS) {
                high[row] = MOST_POINTS * whole;
            } else {
                high[row] = row < told.stuffs ? whole : 0;
            }
        }

        private void keep(int bound) {
            kept |= 1 << bound;
            int row = rowOf(bound);
            if (isLeast(bound)) {
                low[row] = Math.max(low[row], levelOf(bound));
            } else {
                high[row] = Math.min(high[row], levelOf(bound));
            }
        }

        /** Leaves a bound out, and tells if this gave its row more room. */
        private boolean leaveOut(int bound) {
            int row = rowOf(bound);
            int lowWas = low[row];
            int highWas = high[row];
            kept &= ~(1 << bound);
            widen(row);
            for (int other = 0; other < BOUNDS; other++) {
                if (hasBound(kept, other) && rowOf(other) == row) {
                    keep(other);
                }
            }
            return low[row] != lowWas || high[row] != highWas;
        }

        private boolean isThere(int bound) {
            int row = rowOf(bound);
            return row >= STUFFS || row < told.stuffs;
        }

        private int levelOf(int bound) {
            int row = rowOf(bound);
            if (bound < FIRST_LEAST_SHARE) {
                return TENTHS * told.stock[row];
            }
            if (bound < FIRST_MOST_SHARE) {
                return weight * told.leastShare[row];
            }
            if (bound < FIRST_LEAST_NEED) {
                return weight * told.mostShare[row];
            }
            int[] needs = bound < FIRST_MOST_NEED ? told.leastNeed : told.mostNeed;
            return whole * needs[row - STUFFS];
        }

        /** Can the stuffs be the whole together, whatever nutrients they hold? */
        private boolean leaveRoomToStuffs() {
            int least = 0;
            int most = 0;
            for (int stuff = 0; stuff < STUFFS; stuff++) {
                if (low[stuff] > high[stuff]) {
                    return false;
                }
                least += low[stuff];
                most += high[stuff];
            }
            return least <= whole && whole <= most;
        }

        /** The least of a nutrient that stuffs within their limits can hold, or the most. */
        private int extremeOf(int nutrient, boolean isMost) {
            int[] points = told.points[nutrient];
            int[] order = leanFirst[nutrient];
            int all = 0;
            int left = whole;
            for (int stuff = 0; stuff < STUFFS; stuff++) {
                all += points[stuff] * low[stuff];
                left -= low[stuff];
            }
            for (int place = 0; place < STUFFS; place++) {
                int stuff = order[isMost ? STUFFS - 1 - place : place];
                int more = Math.min(left, high[stuff] - low[stuff]);
                all += points[stuff] * more;
                left -= more;
            }
            return all;
        }

        private boolean allow(int row, long above, long under) {
            return above >= low[row] * under && above <= high[row] * under;
        }

        private long allOf(int row, Mix mix) {
            return row < STUFFS ? mix.amount[row] : mix.sum(told.points[row - STUFFS]);
        }
    }

    /**
     * The corners of the space of mixes within limits. The space has an end on every side, so there is a mix only if
     * there is a corner; and of the cheapest mixes the first is a corner.
     */
    private static final class Corners {
        private final Told told;
        private final Limits limits;
        // What a row is if the whole is of the last stuff, and how it grows as a free amount takes that one's place.
        private final int[] ofLast = new int[ROWS];
        private final int[][] slope = new int[ROWS][FREE];
        // A plane is a row at a level. The first ones go through all corners: of their stuffs one amount alone will do.
        private final int[] planeRow = new int[2 * ROWS];
        private final int[] planeLevel = new int[2 * ROWS];
        private int planes = 0;
        private int throughAll = 0;
        private final long[] crossAB = new long[FREE];
        private final Mix corner = new Mix();

        private Corners(Told told, Limits limits) {
            this.told = told;
            this.limits = limits;
        }

        private void setSlopes() {
            for (int row = 0; row < ROWS; row++) {
                int last = pointsOf(row, FREE);
                ofLast[row] = last * limits.whole;
                for (int stuff = 0; stuff < FREE; stuff++) {
                    slope[row][stuff] = pointsOf(row, stuff) - last;
                }
            }
        }

        private int pointsOf(int row, int stuff) {
            if (row < STUFFS) {
                return row == stuff ? 1 : 0;
            }
            return told.points[row - STUFFS][stuff];
        }

        /** Is there a corner? All are gone over if there is a best mix to be bettered; if not, the first is enough. */
        private boolean seek(Mix best) {
            if (!limits.leaveRoomToStuffs() || !setPlanes()) {
                return false;
            }
            boolean found = false;
            for (int a = 0; a < (throughAll > 0 ? 1 : planes); a++) {
                for (int b = a + 1; b < (throughAll > 1 ? 2 : planes); b++) {
                    setCrossOf(a, b);
                    for (int c = b + 1; c < (throughAll > 2 ? 3 : planes); c++) {
                        if (isCorner(a, b, c)) {
                            if (best == null) {
                                return true;
                            }
                            offer(best);
                            found = true;
                        }
                    }
                }
            }
            return found;
        }

        private boolean setPlanes() {
            planes = 0;
            addPlanesOfOneAmount();
            throughAll = planes;
            if (throughAll >= FREE) {
                return true;
            }
            addPlanesOfStuffs();
            return addPlanesOfNutrients();
        }

        private void addPlanesOfOneAmount() {
            for (int row = 0; row < STUFFS; row++) {
                if (limits.low[row] == limits.high[row]) {
                    addPlane(row, limits.low[row]);
                }
            }
        }

        // No stuff can be more than the whole, so a plane there makes no corner that others do not make.
        private void addPlanesOfStuffs() {
            for (int row = 0; row < STUFFS; row++) {
                if (limits.low[row] < limits.high[row]) {
                    addPlane(row, limits.low[row]);
                    if (limits.high[row] < limits.whole) {
                        addPlane(row, limits.high[row]);
                    }
                }
            }
        }

        /** False if a nutrient alone tells that there is no corner; a limit that stuffs cannot pass needs no plane. */
        private boolean addPlanesOfNutrients() {
            for (int nutrient = 0; nutrient < NUTRIENTS; nutrient++) {
                int row = STUFFS + nutrient;
                int least = limits.extremeOf(nutrient, false);
                int most = limits.extremeOf(nutrient, true);
                if (most < limits.low[row] || least > limits.high[row]) {
                    return false;
                }
                if (least < limits.low[row]) {
                    addPlane(row, limits.low[row]);
                }
                if (most > limits.high[row]) {
                    addPlane(row, limits.high[row]);
                }
            }
            return true;
        }

        private void addPlane(int row, int level) {
            if (planes < planeRow.length) {
                planeRow[planes] = row;
                planeLevel[planes] = level - ofLast[row];
                planes++;
            }
        }

        /** Sets the corner to where three planes meet, by Cramer's rule: is that one point, and within the limits? */
        private boolean isCorner(int a, int b, int c) {
            int[] p = slope[planeRow[a]];
            int[] q = slope[planeRow[b]];
            int[] r = slope[planeRow[c]];
            long under = crossAB[0] * r[0] + crossAB[1] * r[1] + crossAB[2] * r[2];
            if (under == 0) {
                return false;
            }
            int sign = under < 0 ? -1 : 1;
            corner.under = sign * under;
            long rest = limits.whole * corner.under;
            for (int stuff = 0; stuff < FREE; stuff++) {
                long above = planeLevel[a] * cross(q, r, stuff) + planeLevel[b] * cross(r, p, stuff)
                        + planeLevel[c] * crossAB[stuff];
                if (!limits.allow(stuff, sign * above, corner.under)) {
                    return false;
                }
                corner.amount[stuff] = sign * above;
                rest -= sign * above;
            }
            corner.amount[FREE] = rest;
            for (int row = FREE; row < ROWS; row++) {
                if (!limits.allow(row, limits.allOf(row, corner), corner.under)) {
                    return false;
                }
            }
            return true;
        }

        private void setCrossOf(int a, int b) {
            for (int side = 0; side < FREE; side++) {
                crossAB[side] = cross(slope[planeRow[a]], slope[planeRow[b]], side);
            }
        }

        private static long cross(int[] p, int[] q, int side) {
            int next = side < 2 ? side + 1 : 0;
            int last = next < 2 ? next + 1 : 0;
            return p[next] * q[last] - p[last] * q[next];
        }

        private void offer(Mix best) {
            corner.price = corner.sum(told.price);
            if (corner.isBetterThan(best)) {
                best.become(corner);
            }
        }
    }

    /** Finds best mixes, and bounds that are tight or clash. */
    private static final class Mixer {
        private final Told told;
        private final Limits limits;
        private final Corners corners;

        private Mixer(Told told) {
            this.told = told;
            this.limits = new Limits(told);
            this.corners = new Corners(told, limits);
        }

        private void begin(int weight) {
            limits.keepAll(weight);
            corners.setSlopes();
        }

        private boolean findBest(int weight, Mix best) {
            begin(weight);
            best.forget();
            fillFromSilos(this, 0, limits.whole, best);
            return !best.isNone();
        }

        /** Tries every number of whole silos of this stuff and the next ones, of what is left to fill. */
        private static void fillFromSilos(Mixer mixer, int stuff, int left, Mix best) {
            if (stuff >= mixer.told.stuffs || stuff >= STUFFS) {
                mixer.corners.seek(best);
                return;
            }
            int size = TENTHS * mixer.told.silo[stuff];
            if (size <= 0) {
                fillFromSilos(mixer, stuff + 1, left, best);
                return;
            }
            Limits limits = mixer.limits;
            int low = limits.low[stuff];
            int high = limits.high[stuff];
            for (int much = 0; much <= left && much <= high; much += size) {
                if (much >= low) {
                    limits.low[stuff] = much;
                    limits.high[stuff] = much;
                    fillFromSilos(mixer, stuff + 1, left - much, best);
                }
            }
            limits.low[stuff] = low;
            limits.high[stuff] = high;
        }

        private boolean canKeepBounds(int weight) {
            begin(weight);
            return corners.seek(null);
        }

        private int clashingBounds(int weight) {
            begin(weight);
            for (int bound = 0; bound < BOUNDS; bound++) {
                if (hasBound(limits.kept, bound) && limits.leaveOut(bound) && corners.seek(null)) {
                    limits.keep(bound);
                }
            }
            return limits.kept;
        }

        /** For the mix that was found last: the levels are still those of its weight. */
        private int tightBounds(Mix mix) {
            int tight = 0;
            for (int bound = 0; bound < BOUNDS; bound++) {
                if (limits.isThere(bound)
                        && limits.allOf(rowOf(bound), mix) == limits.levelOf(bound) * mix.under) {
                    tight |= 1 << bound;
                }
            }
            return tight;
        }
    }
}
