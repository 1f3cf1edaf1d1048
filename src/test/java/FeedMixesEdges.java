/**
 * The edges of what is told of mixes: each bound kept just and missed by the least, each silo just filled, no mix at
 * all, several best ones, fractions in lowest terms, clashes by their order, what a point more costs, an object's last
 * call. Every answer here was worked out by hand.
 */
public final class FeedMixesEdges {
    private static final int NONE = -1;

    private static int wrong = 0;
    private static String sentence = "";

    public static void main(String[] args) {
        stocks();
        leastShares();
        mostShares();
        leastNeeds();
        mostNeeds();
        boundsMissedByASliver();
        amountsNotBelowNothing();
        allTogetherTheWeight();
        boundsOfStuffsThatThereAreNot();
        allBoundsTight();
        noBoundTight();
        everyBoundInPlay();
        silosFilled();
        silosAndBounds();
        silosOfAll();
        leastCost();
        firstOfSeveral();
        firstOfSeveralWithSilos();
        lowestTerms();
        largeFractions();
        clashLeavesTheLater();
        clashBySingles();
        clashOfFour();
        clashIsForgotten();
        lastRunAsItWas();
        refusedRunBetween();
        dearerByOnePoint();
        dearerAtTheEnds();
        dearerWithoutAGoodMix();
        dearerAsAllIsNow();
        dearerAfterRunsWithoutAMix();
        lineOfLaterMixes();
        lastCallOfAnObject();
        objectsApart();
        System.out.println(wrong == 0 ? "all answers are as due" : wrong + " answers are not as due");
        if (wrong != 0) {
            System.exit(1);
        }
    }

    // ---- what is due ----

    private static void due(String call, long got, long want) {
        if (got != want) {
            wrong++;
            System.out.println(sentence + ": " + call + " answered " + got + ", due is " + want);
        }
    }

    private static void amountDue(FeedMixes x, int stuff, long above, long below) {
        due("amount(" + stuff + ", 0)", x.amount(stuff, 0), above);
        due("amount(" + stuff + ", 1)", x.amount(stuff, 1), below);
    }

    private static void wholeDue(FeedMixes x, long... amounts) {
        for (int stuff = 0; stuff < amounts.length; stuff++) {
            amountDue(x, stuff, amounts[stuff], 1);
        }
        due("amount(" + amounts.length + ", 0)", x.amount(amounts.length, 0), NONE);
    }

    private static void costDue(FeedMixes x, long above, long below) {
        due("cost(0)", x.cost(0), above);
        due("cost(1)", x.cost(1), below);
    }

    private static void dearerDue(FeedMixes x, int nutrient, long above, long below) {
        due("dearer(" + nutrient + ", 0)", x.dearer(nutrient, 0), above);
        due("dearer(" + nutrient + ", 1)", x.dearer(nutrient, 1), below);
    }

    private static void noDearerDue(FeedMixes x, int nutrient) {
        dearerDue(x, nutrient, NONE, NONE);
    }

    private static void madeDue(FeedMixes x, int w) {
        due("run(" + w + ")", x.run(w), 0);
        due("clash(0) after a mix", x.clash(0), NONE);
    }

    private static void clashDue(FeedMixes x, int w, int... bounds) {
        due("run(" + w + ")", x.run(w), 1);
        for (int k = 0; k < bounds.length; k++) {
            due("clash(" + k + ")", x.clash(k), bounds[k]);
        }
        due("clash(" + bounds.length + ")", x.clash(bounds.length), NONE);
        noMixDue(x);
    }

    private static void notGoodDue(FeedMixes x, int w) {
        due("run(" + w + ")", x.run(w), 2);
        due("clash(0) if a mix keeps all bounds", x.clash(0), NONE);
        noMixDue(x);
    }

    private static void noMixDue(FeedMixes x) {
        for (int part = 0; part < 2; part++) {
            for (int stuff = 0; stuff < 4; stuff++) {
                due("amount(" + stuff + ", " + part + ") without a mix", x.amount(stuff, part), NONE);
            }
            due("cost(" + part + ") without a mix", x.cost(part), NONE);
        }
        due("tight() without a mix", x.tight(), NONE);
        for (int medicine = 0; medicine <= 3; medicine++) {
            due("line(" + medicine + ") without a mix", x.line(medicine), NONE);
        }
    }

    private static void tightDue(FeedMixes x, int bound, boolean isTight) {
        due("tight() at bound " + bound, x.tight() >> bound & 1, isTight ? 1 : 0);
    }

    private static int bits(int... bounds) {
        int all = 0;
        for (int bound : bounds) {
            all |= 1 << bound;
        }
        return all;
    }

    // ---- objects to begin with ----

    private static FeedMixes stuffsOf(int number, int price, int stock) {
        FeedMixes x = new FeedMixes();
        for (int stuff = 0; stuff < number; stuff++) {
            due("stuff", x.stuff(price, stock), stuff);
        }
        return x;
    }

    /** Four stuffs of which one has another price. */
    private static FeedMixes fourWith(int stuff, int price) {
        FeedMixes x = stuffsOf(4, 500, 40);
        due("price", x.price(stuff, price), 500);
        return x;
    }

    /** Two stuffs, of 10 and 13 points of nutrient 0 at 1 and 2 a kilogram. */
    private static FeedMixes tenAndThirteen() {
        FeedMixes x = new FeedMixes();
        x.stuff(1, 40);
        x.stuff(2, 40);
        x.holds(0, 0, 10);
        x.holds(1, 0, 13);
        return x;
    }

    // ---- bounds, one by one ----

    private static void stocks() {
        sentence = "bounds 0 to 3, no more than the stock";
        for (int stuff = 0; stuff < 4; stuff++) {
            FeedMixes x = fourWith(stuff, 1);
            x.stock(stuff, 11);
            madeDue(x, 10);
            amountDue(x, stuff, 10, 1);
            tightDue(x, stuff, false);
            x.stock(stuff, 10);
            madeDue(x, 10);
            amountDue(x, stuff, 10, 1);
            tightDue(x, stuff, true);
            x.stock(stuff, 9);
            madeDue(x, 10);
            amountDue(x, stuff, 9, 1);
            tightDue(x, stuff, true);
            x.stock(stuff, 0);
            madeDue(x, 10);
            amountDue(x, stuff, 0, 1);
            tightDue(x, stuff, true);
            FeedMixes y = stuffsOf(4, 5, 0);
            y.stock(stuff, 40);
            madeDue(y, 40);
            y.stock(stuff, 39);
            clashDue(y, 40, 0, 1, 2, 3);
            madeDue(y, 39);
        }
    }

    private static void leastShares() {
        sentence = "bounds 4 to 7, no less than the least share";
        for (int stuff = 0; stuff < 4; stuff++) {
            FeedMixes x = fourWith(stuff, 1000);
            madeDue(x, 10);
            amountDue(x, stuff, 0, 1);
            tightDue(x, 4 + stuff, true);
            x.shares(stuff, 3, 10);
            madeDue(x, 7);
            amountDue(x, stuff, 21, 10);
            tightDue(x, 4 + stuff, true);
            x.price(stuff, 1);
            madeDue(x, 7);
            amountDue(x, stuff, 7, 1);
            tightDue(x, 4 + stuff, false);
            x.stock(stuff, 3);
            madeDue(x, 10);
            amountDue(x, stuff, 3, 1);
            clashDue(x, 11, stuff, 4 + stuff);
            x.stock(stuff, 2);
            clashDue(x, 10, stuff, 4 + stuff);
        }
        FeedMixes y = stuffsOf(4, 5, 40);
        int[] leasts = {1, 2, 3, 4};
        for (int stuff = 0; stuff < 4; stuff++) {
            y.shares(stuff, leasts[stuff], 10);
        }
        madeDue(y, 20);
        wholeDue(y, 2, 4, 6, 8);
        due("tight()", y.tight(), bits(4, 5, 6, 7, 12, 13, 14));
        for (int stuff = 0; stuff < 4; stuff++) {
            y.shares(stuff, leasts[stuff] + 1, 10);
            clashDue(y, 20, 4, 5, 6, 7);
            y.shares(stuff, leasts[stuff], 10);
        }
    }

    private static void mostShares() {
        sentence = "bounds 8 to 11, no more than the most share";
        for (int stuff = 0; stuff < 4; stuff++) {
            FeedMixes x = fourWith(stuff, 1);
            madeDue(x, 10);
            amountDue(x, stuff, 10, 1);
            tightDue(x, 8 + stuff, true);
            x.shares(stuff, 0, 9);
            madeDue(x, 7);
            amountDue(x, stuff, 63, 10);
            tightDue(x, 8 + stuff, true);
            x.stock(stuff, 6);
            madeDue(x, 7);
            amountDue(x, stuff, 6, 1);
            tightDue(x, 8 + stuff, false);
            x.shares(stuff, 0, 0);
            madeDue(x, 7);
            amountDue(x, stuff, 0, 1);
            due("tight() of both shares", x.tight() & bits(4 + stuff, 8 + stuff), bits(4 + stuff, 8 + stuff));
        }
        FeedMixes y = stuffsOf(4, 5, 40);
        int[] mosts = {1, 2, 3, 4};
        for (int stuff = 0; stuff < 4; stuff++) {
            y.shares(stuff, 0, mosts[stuff]);
        }
        madeDue(y, 20);
        wholeDue(y, 2, 4, 6, 8);
        due("tight()", y.tight(), bits(8, 9, 10, 11, 12, 13, 14));
        for (int stuff = 0; stuff < 4; stuff++) {
            y.shares(stuff, 0, mosts[stuff] - 1);
            clashDue(y, 20, 8, 9, 10, 11);
            y.shares(stuff, 0, mosts[stuff]);
        }
    }

    private static FeedMixes allHolding(int nutrient, int points) {
        FeedMixes x = stuffsOf(4, 5, 40);
        for (int stuff = 0; stuff < 4; stuff++) {
            x.holds(stuff, nutrient, points);
        }
        return x;
    }

    private static void leastNeeds() {
        sentence = "bounds 12 to 14, no less than the least need";
        for (int nutrient = 0; nutrient < 3; nutrient++) {
            FeedMixes x = allHolding(nutrient, 20);
            x.need(nutrient, 19, 40);
            madeDue(x, 13);
            tightDue(x, 12 + nutrient, false);
            x.need(nutrient, 20, 40);
            madeDue(x, 13);
            tightDue(x, 12 + nutrient, true);
            x.need(nutrient, 21, 40);
            clashDue(x, 13, 12 + nutrient);
            x.holds(3, nutrient, 21);
            madeDue(x, 13);
            amountDue(x, 3, 13, 1);
            x.holds(3, nutrient, 40);
            x.need(nutrient, 40, 40);
            madeDue(x, 13);
            due("tight() of both needs", x.tight() & bits(12 + nutrient, 15 + nutrient),
                    bits(12 + nutrient, 15 + nutrient));
            x.shares(3, 0, 9);
            clashDue(x, 13, 11, 12 + nutrient);
        }
    }

    private static void mostNeeds() {
        sentence = "bounds 15 to 17, no more than the most need";
        for (int nutrient = 0; nutrient < 3; nutrient++) {
            FeedMixes x = allHolding(nutrient, 20);
            x.need(nutrient, 0, 21);
            madeDue(x, 13);
            tightDue(x, 15 + nutrient, false);
            x.need(nutrient, 0, 20);
            madeDue(x, 13);
            tightDue(x, 15 + nutrient, true);
            x.need(nutrient, 0, 19);
            clashDue(x, 13, 15 + nutrient);
            x.holds(0, nutrient, 19);
            madeDue(x, 13);
            amountDue(x, 0, 13, 1);
            x.holds(0, nutrient, 0);
            x.need(nutrient, 0, 0);
            madeDue(x, 13);
            due("tight() of both needs", x.tight() & bits(12 + nutrient, 15 + nutrient),
                    bits(12 + nutrient, 15 + nutrient));
            x.shares(0, 0, 9);
            clashDue(x, 13, 8, 15 + nutrient);
        }
    }

    private static void boundsMissedByASliver() {
        sentence = "every bound exactly, in fractions";
        FeedMixes x = tenAndThirteen();
        // Of 3 kilograms 1 must be of 13 points; a kilogram less of all leaves 2/3.
        x.need(0, 11, 11);
        x.stock(1, 1);
        madeDue(x, 3);
        tightDue(x, 1, true);
        clashDue(x, 4, 1, 12);
        madeDue(x, 2);
        amountDue(x, 1, 2, 3);
        tightDue(x, 1, false);
        // A third is more than three tenths and less than four.
        x.stock(1, 40);
        x.shares(1, 0, 3);
        clashDue(x, 30, 9, 12);
        x.shares(1, 0, 4);
        madeDue(x, 30);
        x.shares(1, 4, 10);
        clashDue(x, 30, 5, 15);
        x.shares(1, 3, 10);
        madeDue(x, 30);
        amountDue(x, 1, 10, 1);
        sliverOfThreeNeeds();
    }

    /** Needs that one mix alone keeps: of 1/53 of the last stuff. */
    private static void sliverOfThreeNeeds() {
        FeedMixes x = stuffsOf(4, 1, 40);
        int[][] points = {{1, 0, 0}, {0, 3, 0}, {0, 0, 7}, {40, 40, 40}};
        for (int stuff = 0; stuff < 4; stuff++) {
            for (int nutrient = 0; nutrient < 3; nutrient++) {
                x.holds(stuff, nutrient, points[stuff][nutrient]);
            }
        }
        for (int nutrient = 0; nutrient < 3; nutrient++) {
            x.need(nutrient, 1 + nutrient, 1 + nutrient);
        }
        madeDue(x, 40);
        amountDue(x, 0, 520, 53);
        amountDue(x, 1, 880, 53);
        amountDue(x, 2, 680, 53);
        amountDue(x, 3, 40, 53);
        due("tight()", x.tight(), bits(12, 13, 14, 15, 16, 17));
        // 680/53 is 12 and 44/53.
        x.stock(2, 13);
        madeDue(x, 40);
        x.stock(2, 12);
        due("run(40)", x.run(40), 1);
        due("clash(0)", x.clash(0), 2);
        // Without the stuff of 1/53 there is too little of all, but of the last two already.
        x.stock(2, 40);
        x.stock(3, 0);
        clashDue(x, 40, 3, 13, 14);
    }

    private static void amountsNotBelowNothing() {
        sentence = "an amount is not below 0";
        FeedMixes x = tenAndThirteen();
        // Of 10 and 13 points, 14 or 9 could be had by less than nothing of one.
        x.need(0, 14, 40);
        clashDue(x, 10, 12);
        x.need(0, 13, 40);
        madeDue(x, 10);
        wholeDue(x, 0, 10);
        x.need(0, 0, 9);
        clashDue(x, 10, 15);
        x.need(0, 0, 10);
        madeDue(x, 10);
        wholeDue(x, 10, 0);
        // Leaving out the least share of nothing does not let an amount fall below it.
        x.need(0, 14, 14);
        x.shares(0, 0, 10);
        clashDue(x, 1, 12);
    }

    private static void allTogetherTheWeight() {
        sentence = "all together W";
        for (int stuffs = 1; stuffs <= 4; stuffs++) {
            FeedMixes x = stuffsOf(stuffs, 0, 10);
            for (int w = 1; w <= 40; w++) {
                if (w <= 10 * stuffs) {
                    madeDue(x, w);
                    long sum = 0;
                    for (int stuff = 0; stuff < stuffs; stuff++) {
                        due("amount(" + stuff + ", 1)", x.amount(stuff, 1), 1);
                        sum += x.amount(stuff, 0);
                    }
                    due("the amounts of run(" + w + ") together", sum, w);
                } else {
                    due("run(" + w + ")", x.run(w), 1);
                    due("clash(" + (stuffs - 1) + ")", x.clash(stuffs - 1), stuffs - 1);
                    due("clash(" + stuffs + ")", x.clash(stuffs), NONE);
                }
            }
        }
    }

    private static void boundsOfStuffsThatThereAreNot() {
        sentence = "bounds of stuffs that there are not are none";
        int[] due = {0, bits(8, 12, 13, 14), bits(4, 9, 12, 13, 14), bits(4, 5, 10, 12, 13, 14),
            bits(4, 5, 6, 11, 12, 13, 14)};
        for (int stuffs = 1; stuffs <= 4; stuffs++) {
            FeedMixes x = stuffsOf(stuffs, 7, 40);
            madeDue(x, 39);
            due("tight() of " + stuffs, x.tight(), due[stuffs]);
            madeDue(x, 40);
            due("tight() of " + stuffs + " at the stock", x.tight(), due[stuffs] | bits(stuffs - 1));
            for (int later = stuffs; later < 4; later++) {
                due("amount(" + later + ", 0)", x.amount(later, 0), NONE);
                due("amount(" + later + ", 1)", x.amount(later, 1), NONE);
            }
        }
        FeedMixes y = stuffsOf(1, 7, 40);
        y.shares(0, 0, 9);
        clashDue(y, 5, 8);
        y.shares(0, 9, 10);
        madeDue(y, 5);
        y.need(2, 1, 40);
        clashDue(y, 5, 14);
    }

    private static void allBoundsTight() {
        sentence = "the bounds that a mix meets just: all";
        FeedMixes x = stuffsOf(4, 5, 40);
        for (int stuff = 0; stuff < 4; stuff++) {
            x.stock(stuff, 1 + stuff);
            x.shares(stuff, 1 + stuff, 1 + stuff);
            for (int nutrient = 0; nutrient < 3; nutrient++) {
                x.holds(stuff, nutrient, 7);
                x.need(nutrient, 7, 7);
            }
        }
        madeDue(x, 10);
        wholeDue(x, 1, 2, 3, 4);
        due("tight()", x.tight(), (1 << 18) - 1);
        madeDue(x, 9);
        due("tight() below the stocks", x.tight(), (1 << 18) - 1 - bits(0, 1, 2, 3));
        due("run(11)", x.run(11), 1);
        due("tight() without a mix", x.tight(), NONE);
    }

    private static void noBoundTight() {
        sentence = "the bounds that a mix meets just: none";
        FeedMixes x = stuffsOf(2, 5, 40);
        for (int stuff = 0; stuff < 2; stuff++) {
            x.silo(stuff, 5 + 2 * stuff);
            for (int nutrient = 0; nutrient < 3; nutrient++) {
                x.holds(stuff, nutrient, 1);
            }
        }
        madeDue(x, 12);
        wholeDue(x, 5, 7);
        due("tight()", x.tight(), 0);
        x.stock(1, 7);
        due("tight() as it was", x.tight(), 0);
        madeDue(x, 12);
        due("tight() at a stock", x.tight(), bits(1));
    }

    /** Each amount and each nutrient could pass its limits on both sides, were it not for bounds. */
    private static void everyBoundInPlay() {
        sentence = "every bound, with all of them in play";
        FeedMixes x = stuffsOf(4, 0, 40);
        int[] prices = {0, 100, 50, 70};
        int[] nutrients = {2, 0, 1};
        for (int stuff = 0; stuff < 4; stuff++) {
            x.price(stuff, prices[stuff]);
            x.shares(stuff, 1, 7);
            if (stuff < 3) {
                x.holds(stuff, nutrients[stuff], 40);
            }
        }
        x.need(0, 5, 27);
        x.need(1, 5, 27);
        x.need(2, 5, 16);
        // 16 points are 4 of stuff 0, 5 are 5/4 of stuff 1; of stuff 3 there is a tenth.
        for (int mostOfLast = 7; mostOfLast >= 1; mostOfLast -= 6) {
            x.shares(3, 1, mostOfLast);
            madeDue(x, 10);
            amountDue(x, 0, 4, 1);
            amountDue(x, 1, 5, 4);
            amountDue(x, 2, 15, 4);
            amountDue(x, 3, 1, 1);
            costDue(x, 765, 2);
            due("tight()", x.tight(), mostOfLast == 1 ? bits(7, 11, 12, 17) : bits(7, 12, 17));
            dearerDue(x, 0, 25, 2);
            dearerDue(x, 1, 0, 1);
            dearerDue(x, 2, 0, 1);
        }
        // The other way round: what was cheap is dear.
        x.shares(3, 1, 7);
        x.price(0, 1000);
        x.price(1, 0);
        x.price(3, 40);
        x.need(0, 5, 24);
        madeDue(x, 10);
        amountDue(x, 0, 5, 4);
        amountDue(x, 1, 6, 1);
        amountDue(x, 2, 5, 4);
        amountDue(x, 3, 3, 2);
        due("tight()", x.tight(), bits(13, 14, 15));
    }

    // ---- silos ----

    private static void silosFilled() {
        sentence = "a whole number of times the silo, perhaps 0";
        int[] sizes = {5, 6, 13, 39, 40};
        for (int size : sizes) {
            FeedMixes x = stuffsOf(1, 7, 40);
            x.silo(0, size);
            for (int w = 1; w <= 40; w++) {
                boolean isWhole = w % size == 0;
                due("run(" + w + ") of silos of " + size, x.run(w), isWhole ? 0 : 2);
                amountDue(x, 0, isWhole ? w : NONE, isWhole ? 1 : NONE);
            }
        }
        FeedMixes y = stuffsOf(2, 7, 40);
        y.price(0, 6);
        y.silo(0, 7);
        int[][] due = {{1, 0}, {6, 0}, {7, 7}, {8, 7}, {13, 7}, {14, 14}, {34, 28}, {35, 35}, {40, 35}};
        for (int[] each : due) {
            madeDue(y, each[0]);
            wholeDue(y, each[1], each[0] - each[1]);
        }
    }

    private static void silosAndBounds() {
        sentence = "silos within bounds";
        FeedMixes x = stuffsOf(2, 7, 40);
        x.price(0, 6);
        x.silo(0, 7);
        x.stock(0, 14);
        madeDue(x, 20);
        wholeDue(x, 14, 6);
        tightDue(x, 0, true);
        x.stock(0, 13);
        madeDue(x, 20);
        wholeDue(x, 7, 13);
        x.shares(0, 0, 3);
        madeDue(x, 20);
        wholeDue(x, 0, 20);
        x.shares(0, 0, 4);
        madeDue(x, 20);
        wholeDue(x, 7, 13);
        x.price(0, 8);
        x.shares(0, 3, 10);
        madeDue(x, 20);
        wholeDue(x, 7, 13);
        x.shares(0, 4, 10);
        notGoodDue(x, 20);
        x.shares(0, 1, 3);
        notGoodDue(x, 20);
        x.shares(0, 7, 10);
        clashDue(x, 20, 0, 4);
        x.stock(0, 40);
        x.shares(0, 1, 10);
        madeDue(x, 20);
        x.holds(0, 1, 20);
        x.need(1, 8, 40);
        madeDue(x, 20);
        wholeDue(x, 14, 6);
        x.need(1, 8, 13);
        notGoodDue(x, 20);
        x.need(1, 8, 14);
        madeDue(x, 20);
        tightDue(x, 16, true);
    }

    private static void silosOfAll() {
        sentence = "silos of several stuffs";
        FeedMixes x = stuffsOf(2, 7, 40);
        x.silo(0, 5);
        x.silo(1, 7);
        // 23 is the largest that is no sum of fives and sevens.
        notGoodDue(x, 23);
        int[][] due = {{5, 5, 0}, {7, 0, 7}, {12, 5, 7}, {24, 10, 14}, {35, 0, 35}, {36, 15, 21}, {40, 5, 35}};
        for (int[] each : due) {
            madeDue(x, each[0]);
            wholeDue(x, each[1], each[2]);
        }
        FeedMixes y = stuffsOf(4, 7, 40);
        int[] sizes = {14, 9, 8, 6};
        for (int stuff = 0; stuff < 4; stuff++) {
            y.silo(stuff, sizes[stuff]);
        }
        madeDue(y, 37);
        wholeDue(y, 0, 9, 16, 12);
        notGoodDue(y, 19);
        madeDue(y, 40);
        wholeDue(y, 0, 0, 16, 24);
        FeedMixes z = stuffsOf(4, 7, 40);
        for (int stuff = 0; stuff < 4; stuff++) {
            z.silo(stuff, 40);
        }
        notGoodDue(z, 39);
        madeDue(z, 40);
        wholeDue(z, 0, 0, 0, 40);
    }

    // ---- the best ----

    private static void leastCost() {
        sentence = "the good one of least cost";
        FeedMixes x = stuffsOf(4, 1000, 10);
        x.price(0, 0);
        x.price(2, 999);
        madeDue(x, 10);
        wholeDue(x, 10, 0, 0, 0);
        costDue(x, 0, 1);
        madeDue(x, 20);
        wholeDue(x, 10, 0, 10, 0);
        costDue(x, 9990, 1);
        madeDue(x, 40);
        wholeDue(x, 10, 10, 10, 10);
        costDue(x, 29990, 1);
        // Cheaper by 1 in 1000 a kilogram is cheaper.
        FeedMixes y = stuffsOf(2, 1000, 40);
        madeDue(y, 1);
        wholeDue(y, 0, 1);
        y.price(0, 999);
        madeDue(y, 1);
        wholeDue(y, 1, 0);
        // A dear stuff of 40 points against two of 20: 1/2 of 101 and nothing else, or 51.
        FeedMixes z = stuffsOf(3, 0, 40);
        z.price(1, 51);
        z.price(2, 101);
        z.holds(1, 0, 20);
        z.holds(2, 0, 40);
        z.need(0, 20, 40);
        madeDue(z, 1);
        amountDue(z, 2, 1, 2);
        costDue(z, 101, 2);
        z.price(2, 103);
        madeDue(z, 1);
        wholeDue(z, 0, 1, 0);
        costDue(z, 51, 1);
    }

    private static void firstOfSeveral() {
        sentence = "of several the least of stuff 0, of these of stuff 1, and so on";
        FeedMixes x = stuffsOf(4, 9, 40);
        madeDue(x, 30);
        wholeDue(x, 0, 0, 0, 30);
        x.stock(3, 20);
        madeDue(x, 30);
        wholeDue(x, 0, 0, 10, 20);
        x.stock(2, 6);
        madeDue(x, 30);
        wholeDue(x, 0, 4, 6, 20);
        x.stock(1, 1);
        madeDue(x, 30);
        wholeDue(x, 3, 1, 6, 20);
        // 51 for 20 points, or a half of 102 and a half of 0.
        FeedMixes z = stuffsOf(3, 0, 40);
        z.price(1, 51);
        z.price(2, 102);
        z.holds(1, 0, 20);
        z.holds(2, 0, 40);
        z.need(0, 20, 40);
        madeDue(z, 1);
        wholeDue(z, 0, 1, 0);
        z.shares(0, 3, 10);
        madeDue(z, 1);
        amountDue(z, 0, 3, 10);
        amountDue(z, 1, 2, 5);
        amountDue(z, 2, 3, 10);
        costDue(z, 51, 1);
        // The same stuffs in another order: now the first are the mixture.
        FeedMixes y = stuffsOf(3, 0, 40);
        y.price(0, 51);
        y.price(2, 102);
        y.holds(0, 0, 20);
        y.holds(2, 0, 40);
        y.need(0, 20, 40);
        madeDue(y, 1);
        amountDue(y, 0, 0, 1);
        amountDue(y, 1, 1, 2);
        amountDue(y, 2, 1, 2);
    }

    private static void firstOfSeveralWithSilos() {
        sentence = "of several good ones the first, with silos";
        FeedMixes x = stuffsOf(3, 9, 40);
        x.silo(2, 8);
        madeDue(x, 30);
        wholeDue(x, 0, 6, 24);
        x.silo(1, 7);
        madeDue(x, 30);
        wholeDue(x, 0, 14, 16);
        x.silo(0, 6);
        madeDue(x, 29);
        wholeDue(x, 0, 21, 8);
        madeDue(x, 27);
        wholeDue(x, 6, 21, 0);
        x.price(2, 8);
        madeDue(x, 30);
        wholeDue(x, 6, 0, 24);
    }

    // ---- fractions ----

    private static void lowestTerms() {
        sentence = "fractions in lowest terms";
        FeedMixes x = stuffsOf(2, 0, 40);
        x.price(1, 1000);
        int[][] tenths = {{1, 1, 10}, {2, 1, 5}, {4, 2, 5}, {5, 1, 2}, {6, 3, 5}, {8, 4, 5}, {10, 1, 1}, {0, 0, 1}};
        for (int[] each : tenths) {
            x.shares(1, each[0], 10);
            madeDue(x, 1);
            amountDue(x, 1, each[1], each[2]);
            costDue(x, 100 * each[0], 1);
        }
        x.price(1, 3);
        x.shares(1, 5, 10);
        madeDue(x, 1);
        costDue(x, 3, 2);
        madeDue(x, 2);
        costDue(x, 3, 1);
        FeedMixes y = stuffsOf(2, 0, 40);
        y.price(1, 6);
        y.holds(1, 0, 39);
        y.need(0, 13, 40);
        madeDue(y, 1);
        amountDue(y, 1, 1, 3);
        costDue(y, 2, 1);
        y.need(0, 12, 40);
        madeDue(y, 1);
        amountDue(y, 0, 9, 13);
        amountDue(y, 1, 4, 13);
        costDue(y, 24, 13);
        dearerDue(y, 0, 2, 13);
        madeDue(y, 39);
        wholeDue(y, 27, 12);
        costDue(y, 72, 1);
        dearerDue(y, 0, 6, 1);
    }

    private static void largeFractions() {
        sentence = "fractions of large numbers";
        // The corners of a cube that are furthest apart, but for one point each.
        FeedMixes x = new FeedMixes();
        int[] prices = {997, 1000, 991, 983};
        int[][] points = {{0, 0, 1}, {40, 39, 0}, {39, 0, 40}, {0, 40, 38}};
        for (int stuff = 0; stuff < 4; stuff++) {
            x.stuff(prices[stuff], 40);
            for (int nutrient = 0; nutrient < 3; nutrient++) {
                x.holds(stuff, nutrient, points[stuff][nutrient]);
            }
        }
        x.need(0, 19, 20);
        x.need(1, 21, 21);
        x.need(2, 20, 20);
        // 40b + 39c = 19, 39b + 40d = 21 and a + 40c + 38d = 20 make 3083 of b 777; a point more makes it 817.
        madeDue(x, 1);
        amountDue(x, 0, 28858, 120237);
        amountDue(x, 1, 777, 3083);
        amountDue(x, 2, 27497, 120237);
        amountDue(x, 3, 861, 3083);
        costDue(x, 39777370, 40079);
        dearerDue(x, 0, 5692, 40079);
        madeDue(x, 40);
        amountDue(x, 0, 1154320, 120237);
        costDue(x, 1591094800, 40079);
        dearerDue(x, 0, 227680, 40079);
        madeDue(x, 39);
        amountDue(x, 1, 30303, 3083);
        costDue(x, 119332110, 3083);
        dearerDue(x, 0, 17076, 3083);
        x.need(0, 20, 20);
        madeDue(x, 1);
        amountDue(x, 0, 9112, 40079);
    }

    // ---- clashes ----

    private static void clashLeavesTheLater() {
        sentence = "bounds 0, 1, .. 17 are gone over";
        // Too little in stock, and least shares that are too much: the stocks go first.
        FeedMixes x = stuffsOf(4, 5, 1);
        clashDue(x, 5, 0, 1, 2, 3);
        for (int stuff = 0; stuff < 4; stuff++) {
            x.shares(stuff, 3, 10);
        }
        clashDue(x, 5, 4, 5, 6, 7);
        x.need(0, 1, 40);
        clashDue(x, 5, 12);
        x.need(2, 1, 1);
        clashDue(x, 5, 14);
        for (int stuff = 0; stuff < 4; stuff++) {
            x.holds(stuff, 1, 2);
        }
        x.need(1, 0, 1);
        clashDue(x, 5, 16);
        // A stock and a most share that are the same: the stock goes. The stock being less, it stays.
        FeedMixes y = stuffsOf(2, 5, 5);
        y.stock(1, 4);
        y.shares(0, 0, 5);
        clashDue(y, 10, 1, 8);
        y.stock(0, 4);
        y.stock(1, 5);
        clashDue(y, 10, 0, 1);
        y.shares(0, 0, 4);
        clashDue(y, 10, 1, 8);
        y.stock(0, 5);
        clashDue(y, 10, 1, 8);
        y.shares(1, 0, 5);
        clashDue(y, 10, 8, 9);
    }

    private static void clashBySingles() {
        sentence = "a bound that clashes alone";
        FeedMixes x = stuffsOf(1, 5, 40);
        x.stock(0, 39);
        clashDue(x, 40, 0);
        madeDue(x, 39);
        x.shares(0, 9, 9);
        clashDue(x, 1, 8);
        clashDue(x, 40, 8);
        x.shares(0, 10, 10);
        clashDue(x, 40, 0);
        for (int nutrient = 0; nutrient < 3; nutrient++) {
            FeedMixes y = stuffsOf(1, 5, 40);
            y.holds(0, nutrient, 39);
            y.need(nutrient, 40, 40);
            clashDue(y, 1, 12 + nutrient);
            y.need(nutrient, 0, 38);
            clashDue(y, 1, 15 + nutrient);
            y.need(nutrient, 39, 39);
            madeDue(y, 1);
        }
    }

    private static void clashOfFour() {
        sentence = "bounds of all kinds that clash";
        // Of stuff 0 there are 2 kilograms at most, of stuff 1 4: so of stuff 2, which has no points, 4 or more.
        FeedMixes x = stuffsOf(3, 5, 40);
        x.stock(0, 2);
        x.shares(1, 0, 4);
        x.holds(0, 1, 40);
        x.holds(1, 1, 10);
        x.need(1, 12, 40);
        madeDue(x, 10);
        wholeDue(x, 2, 4, 4);
        due("tight()", x.tight(), bits(0, 9, 12, 13, 14));
        x.need(1, 13, 40);
        clashDue(x, 10, 0, 9, 13);
        x.holds(2, 1, 2);
        clashDue(x, 10, 0, 9, 13);
        x.holds(2, 1, 3);
        madeDue(x, 10);
        x.shares(2, 5, 10);
        clashDue(x, 10, 0, 6, 13);
        x.need(1, 0, 7);
        x.shares(0, 2, 10);
        x.shares(2, 0, 10);
        clashDue(x, 10, 4, 16);
    }

    private static void clashIsForgotten() {
        sentence = "the bounds that clash, if the last run answered 1";
        FeedMixes x = stuffsOf(2, 5, 10);
        due("clash(0) before a run", x.clash(0), NONE);
        clashDue(x, 21, 0, 1);
        due("clash(-1)", x.clash(-1), NONE);
        due("clash(1)", x.clash(1), 1);
        due("clash(0) after clash(1)", x.clash(0), 0);
        madeDue(x, 20);
        due("clash(1) after a mix", x.clash(1), NONE);
        x.silo(0, 6);
        x.silo(1, 6);
        clashDue(x, 21, 0, 1);
        notGoodDue(x, 20);
        due("clash(1) after no good mix", x.clash(1), NONE);
        x.need(0, 1, 40);
        clashDue(x, 12, 12);
        due("clash(2)", x.clash(2), NONE);
    }

    // ---- the last run ----

    private static void lastRunAsItWas() {
        sentence = "what is told of the last run is as it was then";
        FeedMixes x = tenAndThirteen();
        x.need(0, 11, 40);
        madeDue(x, 3);
        x.stuff(0, 40);
        due("amount(2, 0) of a stuff that came later", x.amount(2, 0), NONE);
        x.stuff(0, 40);
        x.shares(0, 0, 0);
        x.stock(1, 0);
        x.price(1, 1000);
        x.holds(1, 0, 40);
        x.need(0, 40, 40);
        x.silo(0, 40);
        wholeDue(x, 2, 1);
        costDue(x, 4, 1);
        due("tight()", x.tight(), bits(12, 13, 14));
        due("line(1)", x.line(1), 0);
        clashDue(x, 3, 1, 12);
        x.stock(1, 40);
        x.need(0, 0, 40);
        due("clash(0) after its cause is gone", x.clash(0), 1);
        due("clash(1) after its cause is gone", x.clash(1), 12);
        madeDue(x, 3);
        wholeDue(x, 0, 0, 0, 3);
    }

    private static void refusedRunBetween() {
        sentence = "a run that is refused is none";
        FeedMixes x = tenAndThirteen();
        x.need(0, 11, 40);
        madeDue(x, 3);
        int[] refused = {0, 41, -1, 42, Integer.MIN_VALUE, Integer.MAX_VALUE};
        for (int w : refused) {
            due("run(" + w + ")", x.run(w), NONE);
            wholeDue(x, 2, 1);
            costDue(x, 4, 1);
            due("tight()", x.tight(), bits(12, 13, 14));
            dearerDue(x, 0, 1, 1);
            due("line(3)", x.line(3), 0);
        }
        x.need(1, 1, 40);
        clashDue(x, 3, 13);
        for (int w : refused) {
            due("run(" + w + ")", x.run(w), NONE);
            due("clash(0)", x.clash(0), 13);
            due("line(3)", x.line(3), NONE);
        }
    }

    // ---- dearer ----

    private static void dearerByOnePoint() {
        sentence = "by how much one point more costs more";
        FeedMixes x = tenAndThirteen();
        x.need(0, 9, 13);
        madeDue(x, 1);
        dearerDue(x, 0, 0, 1);
        x.need(0, 10, 13);
        dearerDue(x, 0, 1, 3);
        x.need(0, 12, 13);
        dearerDue(x, 0, 1, 3);
        x.need(0, 13, 13);
        noDearerDue(x, 0);
        x.need(0, 13, 14);
        noDearerDue(x, 0);
        x.need(0, 12, 12);
        noDearerDue(x, 0);
        x.need(0, 11, 12);
        dearerDue(x, 0, 1, 3);
        madeDue(x, 40);
        dearerDue(x, 0, 40, 3);
        amountDue(x, 1, 40, 3);
        for (int nutrient = 0; nutrient < 3; nutrient++) {
            FeedMixes y = stuffsOf(4, 0, 40);
            y.price(nutrient, 1000);
            y.holds(nutrient, nutrient, 40);
            madeDue(y, 40);
            for (int other = 0; other < 3; other++) {
                if (other == nutrient) {
                    dearerDue(y, other, 1000, 1);
                } else {
                    noDearerDue(y, other);
                }
            }
        }
    }

    private static void dearerAtTheEnds() {
        sentence = "its least need is its most";
        FeedMixes x = stuffsOf(2, 0, 40);
        x.price(1, 1000);
        x.holds(1, 2, 40);
        madeDue(x, 1);
        x.need(2, 39, 40);
        dearerDue(x, 2, 25, 1);
        x.need(2, 40, 40);
        noDearerDue(x, 2);
        x.need(2, 0, 0);
        noDearerDue(x, 2);
        x.need(2, 0, 1);
        dearerDue(x, 2, 25, 1);
        x.need(2, 1, 1);
        noDearerDue(x, 2);
        due("dearer of the others", x.dearer(0, 0), NONE);
        due("dearer(2, -1)", x.dearer(2, -1), NONE);
        x.need(2, 0, 40);
        due("dearer(2, 2)", x.dearer(2, 2), NONE);
        due("dearer(3, 0)", x.dearer(3, 0), NONE);
        due("dearer(-1, 1)", x.dearer(-1, 1), NONE);
        dearerDue(x, 2, 25, 1);
        // The most that a point can cost: all of a stuff for nothing becomes all of the dearest.
        x.silo(1, 40);
        madeDue(x, 40);
        dearerDue(x, 2, 40000, 1);
    }

    private static void dearerWithoutAGoodMix() {
        sentence = "there is no good mix, now or then";
        FeedMixes x = stuffsOf(2, 0, 40);
        x.price(1, 1000);
        x.holds(1, 0, 40);
        x.silo(1, 10);
        madeDue(x, 20);
        dearerDue(x, 0, 10000, 1);
        x.need(0, 20, 40);
        dearerDue(x, 0, 10000, 1);
        x.need(0, 19, 40);
        dearerDue(x, 0, 0, 1);
        // A point more can be had, but not in whole silos.
        x.need(0, 20, 39);
        noDearerDue(x, 0);
        x.need(0, 21, 39);
        noDearerDue(x, 0);
        x.need(0, 20, 40);
        x.stock(1, 19);
        noDearerDue(x, 0);
        x.stock(1, 20);
        dearerDue(x, 0, 10000, 1);
        x.stock(1, 10);
        x.silo(1, 0);
        noDearerDue(x, 0);
        x.stock(1, 9);
        noDearerDue(x, 0);
        x.need(0, 17, 40);
        dearerDue(x, 0, 500, 1);
        // Another bound that clashes leaves no mix now.
        x.need(1, 1, 40);
        noDearerDue(x, 0);
        noDearerDue(x, 1);
        noDearerDue(x, 2);
        wholeDue(x, 20, 0);
    }

    private static void dearerAsAllIsNow() {
        sentence = "as many kilograms as the last run's, as all is now";
        FeedMixes x = tenAndThirteen();
        x.need(0, 11, 40);
        madeDue(x, 6);
        dearerDue(x, 0, 2, 1);
        x.price(1, 5);
        dearerDue(x, 0, 8, 1);
        x.holds(1, 0, 14);
        dearerDue(x, 0, 6, 1);
        x.stock(1, 3);
        dearerDue(x, 0, 6, 1);
        x.stock(1, 2);
        noDearerDue(x, 0);
        x.stuff(2, 40);
        x.holds(2, 0, 12);
        dearerDue(x, 0, 3, 1);
        x.shares(2, 0, 0);
        noDearerDue(x, 0);
        x.shares(2, 0, 10);
        x.silo(2, 6);
        dearerDue(x, 0, 0, 1);
        wholeDue(x, 4, 2);
        costDue(x, 8, 1);
        due("tight()", x.tight(), bits(12, 13, 14));
    }

    private static void dearerAfterRunsWithoutAMix() {
        sentence = "no run was made";
        FeedMixes x = tenAndThirteen();
        x.need(0, 11, 40);
        noDearerDue(x, 0);
        x.run(0);
        x.run(41);
        noDearerDue(x, 0);
        // A run that bounds let make no mix is a run for its weight all the same.
        x.stock(0, 0);
        x.stock(1, 2);
        clashDue(x, 3, 0, 1);
        noDearerDue(x, 0);
        x.stock(0, 40);
        x.stock(1, 40);
        dearerDue(x, 0, 1, 1);
        x.silo(0, 5);
        x.silo(1, 5);
        notGoodDue(x, 9);
        noDearerDue(x, 0);
        x.silo(0, 0);
        x.silo(1, 0);
        dearerDue(x, 0, 3, 1);
    }

    // ---- the line, and the object's end ----

    private static void lineOfLaterMixes() {
        sentence = "the mix that the last run made goes over the line";
        FeedMixes x = stuffsOf(1, 5, 10);
        due("made()", x.made(), 0);
        due("clean()", x.clean(), 0);
        due("line(0) before a run", x.line(0), NONE);
        madeDue(x, 10);
        due("line(0)", x.line(0), 0);
        due("line(0) once more", x.line(0), 0);
        due("made()", x.made(), 2);
        due("line(1)", x.line(1), 0);
        due("line(1) once more", x.line(1), 0);
        due("line(0) after 1", x.line(0), 1);
        due("line(2) after 1", x.line(2), 1);
        due("made()", x.made(), 4);
        due("run(11)", x.run(11), 1);
        due("line(1) after a clash", x.line(1), NONE);
        due("line(2) after a clash", x.line(2), NONE);
        due("made()", x.made(), 4);
        madeDue(x, 9);
        due("line(2) with 1 on it", x.line(2), 1);
        due("line(1)", x.line(1), 0);
        due("clean()", x.clean(), 1);
        due("clean() of a clean line", x.clean(), 0);
        due("made()", x.made(), 5);
        due("line(3)", x.line(3), 0);
        due("line(4) with 3 on it", x.line(4), NONE);
        due("line(-1) with 3 on it", x.line(-1), NONE);
        due("made()", x.made(), 6);
        due("clean()", x.clean(), 3);
    }

    private static void lastCallOfAnObject() {
        sentence = "at most 512 calls";
        FeedMixes x = new FeedMixes();
        x.stuff(1, 40);
        x.stuff(2, 40);
        for (int call = 3; call <= 509; call += 3) {
            int w = 1 + call % 40;
            due("run(" + w + ")", x.run(w), 0);
            due("amount(0, 0)", x.amount(0, 0), w);
            due("line(2)", x.line(2), 0);
        }
        due("stuff(3, 40) as call 510", x.stuff(3, 40), 2);
        due("made() as call 511", x.made(), 169);
        due("clean() as call 512", x.clean(), 2);
        FeedMixes y = new FeedMixes();
        y.stuff(1, 40);
        y.run(1);
        for (int call = 3; call <= 511; call++) {
            due("line(0)", y.line(0), 0);
        }
        due("made() as call 512", y.made(), 509);
    }

    private static void objectsApart() {
        sentence = "an object is by itself";
        FeedMixes x = tenAndThirteen();
        x.need(0, 11, 12);
        FeedMixes y = tenAndThirteen();
        madeDue(x, 1);
        madeDue(y, 2);
        x.line(3);
        y.price(0, 9);
        amountDue(x, 1, 1, 3);
        wholeDue(y, 2, 0);
        due("clean() of the other", y.clean(), 0);
        due("made() of the other", y.made(), 0);
        due("price of the other", x.price(0, 1), 1);
        FeedMixes z = new FeedMixes();
        due("run(1) of a new one", z.run(1), NONE);
        noDearerDue(z, 0);
    }
}
