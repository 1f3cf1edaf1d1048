/** Each promise of the document: ordinary inputs, the edges that it names, and wrong inputs. */
public final class FeedMixesPromises {
    private static final int LOW = Integer.MIN_VALUE;
    private static final int HIGH = Integer.MAX_VALUE;

    private static int wrong = 0;
    private static int promise = 0;

    public static void main(String[] args) {
        newObject();
        stuff();
        price();
        stock();
        holds();
        need();
        shares();
        silo();
        run();
        runKeepsWhatWasThen();
        amount();
        firstOfSeveral();
        cost();
        tight();
        clash();
        clashInOrder();
        dearer();
        dearerAsAllIsNow();
        dearerIsRefused();
        line();
        clean();
        made();
        System.out.println(wrong == 0 ? "all answers are as due" : wrong + " answers are not as due");
        if (wrong != 0) {
            System.exit(1);
        }
    }

    private static void due(String call, long got, long want) {
        if (got != want) {
            wrong++;
            System.out.println("promise " + promise + ": " + call + " answered " + got + ", due is " + want);
        }
    }

    private static void due(String call, boolean got, boolean want) {
        due(call, got ? 1 : 0, want ? 1 : 0);
    }

    private static void amountDue(FeedMixes x, int stuff, long above, long below) {
        due("amount(" + stuff + ", 0)", x.amount(stuff, 0), above);
        due("amount(" + stuff + ", 1)", x.amount(stuff, 1), below);
    }

    private static void costDue(FeedMixes x, long above, long below) {
        due("cost(0)", x.cost(0), above);
        due("cost(1)", x.cost(1), below);
    }

    private static void dearerDue(FeedMixes x, int nutrient, long above, long below) {
        due("dearer(" + nutrient + ", 0)", x.dearer(nutrient, 0), above);
        due("dearer(" + nutrient + ", 1)", x.dearer(nutrient, 1), below);
    }

    private static void clashDue(FeedMixes x, int... bounds) {
        for (int k = 0; k < bounds.length; k++) {
            due("clash(" + k + ")", x.clash(k), bounds[k]);
        }
        due("clash(" + bounds.length + ")", x.clash(bounds.length), FeedMixes.NONE);
    }

    private static void noMixDue(FeedMixes x) {
        for (int part = 0; part <= 1; part++) {
            due("amount without a mix", x.amount(0, part), -1);
            due("cost without a mix", x.cost(part), -1);
        }
        due("tight without a mix", x.tight(), -1);
        due("line without a mix", x.line(0), -1);
    }

    private static int bits(int... bounds) {
        int all = 0;
        for (int bound : bounds) {
            all |= 1 << bound;
        }
        return all;
    }

    /** Two stuffs, of 10 and 13 points of nutrient 0 at 1 and 2 a kilogram. */
    private static FeedMixes tenAndThirteen() {
        FeedMixes x = new FeedMixes();
        x.stuff(1, 40);
        x.stuff(2, 40);
        x.holds(0, 0, 10);
        x.holds(1, 0, 13);
        return x;
    }

    private static void newObject() {
        promise = 1;
        FeedMixes x = new FeedMixes();
        due("NONE", FeedMixes.NONE, -1);
        due("price of no stuff", x.price(0, 1), -1);
        due("run without stuffs", x.run(10), -1);
        noMixDue(x);
        due("clash before a run", x.clash(0), -1);
        due("dearer before a run", x.dearer(0, 0), -1);
        due("clean()", x.clean(), 0);
        due("made()", x.made(), 0);
        x.stuff(3, 40);
        x.holds(0, 0, 40);
        due("run within the needs at first", x.run(10), 0);
        due("tight at needs 0 and 40", x.tight(), bits(8, 13, 14, 15));
        FeedMixes other = new FeedMixes();
        due("another object has no stuffs", other.run(10), -1);
    }

    private static void stuff() {
        promise = 2;
        FeedMixes x = new FeedMixes();
        int[][] refused = {{-1, 5}, {1001, 5}, {5, -1}, {5, 41}, {LOW, 5}, {5, HIGH}, {HIGH, LOW}};
        for (int[] each : refused) {
            due("stuff(" + each[0] + ", " + each[1] + ")", x.stuff(each[0], each[1]), -1);
        }
        due("run after refused stuffs", x.run(1), -1);
        due("stuff(0, 0)", x.stuff(0, 0), 0);
        due("stuff(1000, 40)", x.stuff(1000, 40), 1);
        due("stuff(-1, 0) between", x.stuff(-1, 0), -1);
        due("stuff(7, 9)", x.stuff(7, 9), 2);
        due("stuff(7, 9) again", x.stuff(7, 9), 3);
        due("a fifth", x.stuff(7, 9), -1);
        due("price of the second", x.price(1, 1), 1000);
        due("stock of the second", x.stock(1, 1), 40);
        due("price of the fourth", x.price(3, 1), 7);
        FeedMixes y = new FeedMixes();
        y.stuff(5, 40);
        due("shares and silo at first", y.run(7), 0);
        due("tight of one stuff alone", y.tight(), bits(8, 12, 13, 14));
    }

    private static void price() {
        promise = 3;
        FeedMixes x = new FeedMixes();
        x.stuff(10, 40);
        x.stuff(20, 40);
        due("price(0, 30)", x.price(0, 30), 10);
        due("price(0, 0)", x.price(0, 0), 30);
        due("price(0, 1000)", x.price(0, 1000), 0);
        int[][] refused = {{0, -1}, {0, 1001}, {-1, 5}, {2, 5}, {HIGH, 5}, {LOW, 5}, {0, HIGH}, {0, LOW}};
        for (int[] each : refused) {
            due("price(" + each[0] + ", " + each[1] + ")", x.price(each[0], each[1]), -1);
        }
        due("price after refusals", x.price(0, 30), 1000);
        x.run(10);
        costDue(x, 200, 1);
        x.price(0, 19);
        x.run(10);
        costDue(x, 190, 1);
    }

    private static void stock() {
        promise = 4;
        FeedMixes x = new FeedMixes();
        x.stuff(10, 40);
        x.stuff(20, 40);
        due("stock(0, 0)", x.stock(0, 0), 40);
        due("stock(0, 40)", x.stock(0, 40), 0);
        due("stock(0, 3)", x.stock(0, 3), 40);
        int[][] refused = {{0, -1}, {0, 41}, {-1, 5}, {2, 5}, {HIGH, 5}, {LOW, 5}, {0, HIGH}, {0, LOW}};
        for (int[] each : refused) {
            due("stock(" + each[0] + ", " + each[1] + ")", x.stock(each[0], each[1]), -1);
        }
        x.run(10);
        amountDue(x, 0, 3, 1);
        amountDue(x, 1, 7, 1);
        due("a run takes nothing from the stock", x.stock(0, 3), 3);
    }

    private static void holds() {
        promise = 5;
        FeedMixes x = new FeedMixes();
        x.stuff(1, 40);
        due("holds(0, 0, 40)", x.holds(0, 0, 40), true);
        due("holds(0, 1, 0)", x.holds(0, 1, 0), true);
        due("holds(0, 2, 17)", x.holds(0, 2, 17), true);
        int[][] refused = {{0, 0, -1}, {0, 0, 41}, {0, -1, 5}, {0, 3, 5}, {1, 0, 5}, {-1, 0, 5}, {HIGH, 0, 5},
            {0, HIGH, 5}, {0, 2, HIGH}, {LOW, 0, 5}, {0, LOW, 5}, {0, 2, LOW}};
        for (int[] each : refused) {
            due("holds(" + each[0] + ", " + each[1] + ", " + each[2] + ")", x.holds(each[0], each[1], each[2]), false);
        }
        x.need(2, 17, 17);
        due("run at the points told", x.run(3), 0);
        due("tight at the points told", x.tight(), bits(8, 13, 14, 15, 17));
        x.holds(0, 2, 16);
        due("run below the need", x.run(3), 1);
        clashDue(x, 14);
        x.holds(0, 2, 18);
        due("run above the need", x.run(3), 1);
        clashDue(x, 17);
    }

    private static void need() {
        promise = 6;
        FeedMixes x = tenAndThirteen();
        due("need(0, 11, 12)", x.need(0, 11, 12), true);
        int[][] refused = {{0, 12, 11}, {0, -1, 5}, {0, 0, 41}, {0, -2, -1}, {0, 41, 41}, {-1, 0, 1}, {3, 0, 1},
            {HIGH, 0, 1}, {LOW, 0, 1}, {0, LOW, HIGH}, {0, 5, HIGH}, {0, LOW, 5}};
        for (int[] each : refused) {
            due("need(" + each[0] + ", " + each[1] + ", " + each[2] + ")", x.need(each[0], each[1], each[2]), false);
        }
        due("run after refusals", x.run(1), 0);
        amountDue(x, 1, 1, 3);
        x.price(0, 3);
        due("run towards the most", x.run(1), 0);
        amountDue(x, 1, 2, 3);
        due("need(0, 0, 40)", x.need(0, 0, 40), true);
        due("need(1, 0, 0)", x.need(1, 0, 0), true);
        due("need(2, 40, 40)", x.need(2, 40, 40), true);
        due("run with no nutrient 2", x.run(1), 1);
        clashDue(x, 14);
    }

    private static void shares() {
        promise = 7;
        FeedMixes x = new FeedMixes();
        x.stuff(10, 40);
        x.stuff(20, 40);
        due("shares(1, 3, 10)", x.shares(1, 3, 10), true);
        int[][] refused = {{1, 4, 3}, {1, -1, 5}, {1, 0, 11}, {1, 11, 11}, {-1, 0, 1}, {2, 0, 1}, {HIGH, 0, 1},
            {LOW, 0, 1}, {1, LOW, HIGH}, {1, 5, HIGH}, {1, LOW, 5}};
        for (int[] each : refused) {
            due("shares(" + each[0] + ", " + each[1] + ", " + each[2] + ")", x.shares(each[0], each[1], each[2]),
                    false);
        }
        x.run(11);
        amountDue(x, 1, 33, 10);
        amountDue(x, 0, 77, 10);
        due("shares(0, 0, 6)", x.shares(0, 0, 6), true);
        x.run(11);
        amountDue(x, 0, 33, 5);
        due("shares(0, 0, 0)", x.shares(0, 0, 0), true);
        due("shares(1, 10, 10)", x.shares(1, 10, 10), true);
        due("run of one stuff alone", x.run(11), 0);
        amountDue(x, 0, 0, 1);
        amountDue(x, 1, 11, 1);
        due("tight", x.tight(), bits(4, 5, 8, 9, 12, 13, 14));
    }

    private static void silo() {
        promise = 8;
        FeedMixes x = new FeedMixes();
        x.stuff(10, 40);
        x.stuff(20, 40);
        due("silo(0, 6)", x.silo(0, 6), true);
        int[][] refused = {{0, 1}, {0, 4}, {0, 41}, {0, -1}, {0, -5}, {-1, 5}, {2, 5}, {HIGH, 5}, {LOW, 0}, {0, HIGH},
            {0, LOW}};
        for (int[] each : refused) {
            due("silo(" + each[0] + ", " + each[1] + ")", x.silo(each[0], each[1]), false);
        }
        x.run(20);
        amountDue(x, 0, 18, 1);
        due("silo(0, 40)", x.silo(0, 40), true);
        x.run(40);
        amountDue(x, 0, 40, 1);
        x.run(39);
        amountDue(x, 0, 0, 1);
        due("silo(0, 5)", x.silo(0, 5), true);
        due("silo(1, 7)", x.silo(1, 7), true);
        x.run(39);
        amountDue(x, 0, 25, 1);
        amountDue(x, 1, 14, 1);
        due("silo(0, 0)", x.silo(0, 0), true);
        due("silo(1, 0)", x.silo(1, 0), true);
        x.run(39);
        amountDue(x, 0, 39, 1);
    }

    private static void run() {
        promise = 9;
        FeedMixes x = new FeedMixes();
        due("run without stuffs", x.run(1), -1);
        x.stuff(10, 40);
        int[] refused = {0, 41, -1, LOW, HIGH};
        for (int w : refused) {
            due("run(" + w + ")", x.run(w), -1);
            noMixDue(x);
        }
        due("dearer after refused runs", x.dearer(0, 0), -1);
        due("run(1)", x.run(1), 0);
        due("run(40)", x.run(40), 0);
        due("run(0) after a run", x.run(0), -1);
        amountDue(x, 0, 40, 1);
        x.silo(0, 7);
        due("run(14) of silos of 7", x.run(14), 0);
        due("run(10) of silos of 7", x.run(10), 2);
        noMixDue(x);
        clashDue(x);
        x.stock(0, 9);
        due("run(10) of a stock of 9", x.run(10), 1);
        noMixDue(x);
        clashDue(x, 0);
        x.stock(0, 10);
        due("run(10) of a stock of 10", x.run(10), 2);
        x.silo(0, 5);
        due("run(10) of silos of 5", x.run(10), 0);
    }

    private static void runKeepsWhatWasThen() {
        promise = 9;
        FeedMixes x = tenAndThirteen();
        x.need(0, 11, 12);
        x.run(1);
        int tight = x.tight();
        x.price(0, 500);
        x.stock(1, 0);
        x.holds(0, 0, 40);
        x.need(0, 30, 40);
        x.shares(0, 5, 5);
        x.silo(1, 5);
        x.stuff(0, 40);
        x.dearer(1, 0);
        amountDue(x, 0, 2, 3);
        amountDue(x, 1, 1, 3);
        due("amount of a stuff that was not there then", x.amount(2, 0), -1);
        costDue(x, 4, 3);
        due("tight as it was", x.tight(), tight);
        FeedMixes y = new FeedMixes();
        y.stuff(1, 5);
        y.run(6);
        y.stock(0, 40);
        y.need(0, 3, 40);
        y.dearer(0, 0);
        clashDue(y, 0);
    }

    private static void amount() {
        promise = 10;
        FeedMixes x = tenAndThirteen();
        x.need(0, 11, 40);
        x.run(2);
        amountDue(x, 0, 4, 3);
        amountDue(x, 1, 2, 3);
        int[][] refused = {{-1, 0}, {2, 0}, {0, -1}, {0, 2}, {HIGH, 0}, {0, HIGH}, {LOW, 1}, {0, LOW}};
        for (int[] each : refused) {
            due("amount(" + each[0] + ", " + each[1] + ")", x.amount(each[0], each[1]), -1);
        }
        x.need(0, 11, 11);
        x.stuff(100, 40);
        x.stuff(100, 40);
        due("amount of a stuff told after the run", x.amount(2, 1), -1);
        x.run(2);
        amountDue(x, 2, 0, 1);
        amountDue(x, 3, 0, 1);
        three();
    }

    /** Three needs at once: a corner where no stuff is at a limit of its own. */
    private static void three() {
        FeedMixes x = new FeedMixes();
        int[][] points = {{1, 0, 0}, {0, 3, 0}, {0, 0, 7}, {40, 40, 40}};
        for (int stuff = 0; stuff < 4; stuff++) {
            x.stuff(stuff == 3 ? 1000 : 1, 40);
            for (int nutrient = 0; nutrient < 3; nutrient++) {
                x.holds(stuff, nutrient, points[stuff][nutrient]);
            }
        }
        x.need(0, 1, 40);
        x.need(1, 2, 40);
        x.need(2, 3, 40);
        due("run of three needs", x.run(1), 0);
        // a + 40d = 1, 3b + 40d = 2, 7c + 40d = 3 and a + b + c + d = 1 make 1219/21 of d 23/21.
        amountDue(x, 0, 13, 53);
        amountDue(x, 1, 22, 53);
        amountDue(x, 2, 17, 53);
        amountDue(x, 3, 1, 53);
        costDue(x, 1052, 53);
        due("tight()", x.tight(), bits(12, 13, 14));
    }

    private static void firstOfSeveral() {
        promise = 10;
        FeedMixes x = new FeedMixes();
        for (int stuff = 0; stuff < 4; stuff++) {
            x.stuff(5, 40);
            x.holds(stuff, 0, 10 + 10 * stuff);
        }
        x.need(0, 20, 20);
        x.run(10);
        amountDue(x, 0, 0, 1);
        amountDue(x, 1, 10, 1);
        x.shares(1, 0, 5);
        x.run(10);
        amountDue(x, 0, 5, 2);
        amountDue(x, 1, 5, 1);
        amountDue(x, 2, 5, 2);
        amountDue(x, 3, 0, 1);
        x.silo(0, 5);
        x.run(10);
        amountDue(x, 0, 5, 1);
        amountDue(x, 1, 0, 1);
        amountDue(x, 2, 5, 1);
        amountDue(x, 3, 0, 1);
    }

    private static void cost() {
        promise = 11;
        FeedMixes x = tenAndThirteen();
        x.need(0, 11, 40);
        x.run(1);
        costDue(x, 4, 3);
        x.run(3);
        costDue(x, 4, 1);
        int[] refused = {-1, 2, HIGH, LOW};
        for (int part : refused) {
            due("cost(" + part + ")", x.cost(part), -1);
        }
        x.price(0, 0);
        x.price(1, 0);
        costDue(x, 4, 1);
        x.run(3);
        costDue(x, 0, 1);
        amountDue(x, 0, 0, 1);
        x.price(0, 1000);
        x.price(1, 1000);
        x.run(40);
        costDue(x, 40000, 1);
    }

    private static void tight() {
        promise = 12;
        FeedMixes x = new FeedMixes();
        for (int stuff = 0; stuff < 4; stuff++) {
            x.stuff(5, 40);
            x.holds(stuff, 0, 10 + 10 * stuff);
        }
        x.need(0, 20, 20);
        x.shares(1, 0, 5);
        x.run(10);
        due("tight()", x.tight(), bits(7, 9, 12, 13, 14, 15));
        x.stock(1, 5);
        x.run(10);
        due("tight() at a stock too", x.tight(), bits(1, 7, 9, 12, 13, 14, 15));
        x.need(0, 20, 21);
        x.need(1, 0, 0);
        x.run(10);
        due("tight() at a most need of 0", x.tight() & bits(13, 16), bits(13, 16));
        FeedMixes y = new FeedMixes();
        y.stuff(1, 40);
        y.stuff(2, 40);
        y.shares(1, 2, 9);
        y.run(5);
        due("tight() at a least share", y.tight(), bits(5, 12, 13, 14));
        y.run(0);
        due("tight() after a refused run", y.tight(), bits(5, 12, 13, 14));
        y.need(0, 1, 1);
        y.run(5);
        due("tight() after a clash", y.tight(), -1);
    }

    private static void clash() {
        promise = 13;
        FeedMixes x = new FeedMixes();
        for (int stuff = 0; stuff < 4; stuff++) {
            x.stuff(5, 2);
        }
        due("run over the stocks", x.run(9), 1);
        clashDue(x, 0, 1, 2, 3);
        int[] refused = {-1, 4, 18, HIGH, LOW};
        for (int k : refused) {
            due("clash(" + k + ")", x.clash(k), -1);
        }
        due("run of all stocks", x.run(8), 0);
        clashDue(x);
        FeedMixes y = new FeedMixes();
        y.stuff(5, 2);
        y.stuff(5, 40);
        y.holds(0, 1, 20);
        y.need(1, 10, 40);
        due("run with a stock below the need", y.run(10), 1);
        clashDue(y, 0, 13);
        y.silo(0, 5);
        due("silos do not matter", y.run(10), 1);
        clashDue(y, 0, 13);
        y.need(1, 4, 40);
        due("silos alone", y.run(10), 2);
        clashDue(y);
        FeedMixes z = tenAndThirteen();
        z.holds(0, 1, 5);
        z.need(0, 12, 40);
        z.need(1, 2, 40);
        due("two needs that clash", z.run(10), 1);
        clashDue(z, 12, 13);
    }

    private static void clashInOrder() {
        promise = 13;
        FeedMixes x = new FeedMixes();
        x.stuff(5, 5);
        x.stuff(5, 5);
        x.shares(0, 0, 2);
        x.shares(1, 0, 2);
        due("run over stocks and shares", x.run(20), 1);
        clashDue(x, 8, 9);
        x.shares(1, 0, 10);
        due("run over a stock and a share", x.run(20), 1);
        clashDue(x, 1, 8);
        x.holds(0, 2, 10);
        x.holds(1, 2, 20);
        x.need(2, 30, 40);
        due("run over a need too", x.run(20), 1);
        clashDue(x, 14);
        FeedMixes y = new FeedMixes();
        y.stuff(5, 0);
        due("run of a stuff that is not there to have", y.run(20), 1);
        clashDue(y, 0);
        y.shares(0, 0, 0);
        y.run(20);
        clashDue(y, 8);
    }

    private static void dearer() {
        promise = 14;
        FeedMixes x = tenAndThirteen();
        x.need(0, 11, 40);
        x.run(1);
        dearerDue(x, 0, 1, 3);
        dearerDue(x, 1, -1, -1);
        x.need(0, 9, 40);
        dearerDue(x, 0, 0, 1);
        x.need(0, 10, 11);
        x.run(6);
        dearerDue(x, 0, 2, 1);
        FeedMixes y = new FeedMixes();
        y.stuff(1, 40);
        y.stuff(11, 40);
        y.holds(1, 0, 10);
        y.silo(1, 5);
        y.run(10);
        dearerDue(y, 0, 50, 1);
        y.need(0, 4, 40);
        dearerDue(y, 0, 0, 1);
        y.need(0, 5, 40);
        dearerDue(y, 0, 50, 1);
        y.run(10);
        amountDue(y, 1, 5, 1);
    }

    private static void dearerAsAllIsNow() {
        promise = 14;
        FeedMixes x = tenAndThirteen();
        x.need(0, 11, 40);
        x.run(3);
        x.price(1, 4);
        dearerDue(x, 0, 3, 1);
        costDue(x, 4, 1);
        x.run(0);
        dearerDue(x, 0, 3, 1);
        x.need(1, 1, 40);
        due("run that clashes", x.run(1), 1);
        x.need(1, 0, 40);
        dearerDue(x, 0, 1, 1);
        clashDue(x, 13);
        x.silo(0, 9);
        x.silo(1, 9);
        due("run that is not good", x.run(2), 2);
        x.silo(0, 0);
        x.silo(1, 0);
        dearerDue(x, 0, 2, 1);
        x.stuff(0, 40);
        x.holds(2, 0, 12);
        dearerDue(x, 0, 0, 1);
    }

    private static void dearerIsRefused() {
        promise = 14;
        FeedMixes x = tenAndThirteen();
        x.need(0, 11, 12);
        due("dearer before a run", x.dearer(0, 0), -1);
        x.run(0);
        due("dearer after a refused run", x.dearer(0, 0), -1);
        x.run(1);
        int[][] refused = {{-1, 0}, {3, 0}, {0, -1}, {0, 2}, {HIGH, 0}, {LOW, 0}, {0, HIGH}, {0, LOW}};
        for (int[] each : refused) {
            due("dearer(" + each[0] + ", " + each[1] + ")", x.dearer(each[0], each[1]), -1);
        }
        dearerDue(x, 0, 1, 3);
        x.need(0, 11, 11);
        dearerDue(x, 0, -1, -1);
        x.need(0, 13, 14);
        dearerDue(x, 0, -1, -1);
        x.need(0, 14, 15);
        dearerDue(x, 0, -1, -1);
        x.need(0, 40, 40);
        dearerDue(x, 0, -1, -1);
        x.need(0, 12, 13);
        dearerDue(x, 0, 1, 3);
        x.silo(1, 5);
        dearerDue(x, 0, -1, -1);
        due("the need is as it was", x.need(0, 12, 12), true);
        due("run with all of it", x.run(1), 2);
    }

    private static void line() {
        promise = 15;
        FeedMixes x = tenAndThirteen();
        due("line before a run", x.line(0), -1);
        x.run(1);
        int[] refused = {-1, 4, HIGH, LOW};
        for (int medicine : refused) {
            due("line(" + medicine + ")", x.line(medicine), -1);
        }
        due("line(0)", x.line(0), 0);
        due("line(3) after none", x.line(3), 0);
        due("line(3) again", x.line(3), 0);
        due("line(0) after 3", x.line(0), 1);
        due("line(1) after 3", x.line(1), 1);
        due("line(2) after 3", x.line(2), 1);
        due("line(4) after 3", x.line(4), -1);
        due("line(3) after refusals", x.line(3), 0);
        x.need(2, 1, 1);
        due("run that clashes", x.run(1), 1);
        due("line(3) without a mix", x.line(3), -1);
        x.need(2, 0, 1);
        x.run(1);
        due("line(1) after another run", x.line(1), 1);
        due("made()", x.made(), 4);
        x.clean();
        due("line(1) after cleaning", x.line(1), 0);
    }

    private static void clean() {
        promise = 16;
        FeedMixes x = tenAndThirteen();
        due("clean() at first", x.clean(), 0);
        x.run(1);
        x.line(0);
        due("clean() after no medicine", x.clean(), 0);
        x.line(2);
        x.line(1);
        due("clean()", x.clean(), 2);
        due("clean() again", x.clean(), 0);
        x.line(1);
        x.run(41);
        x.run(2);
        due("clean() after other runs", x.clean(), 1);
        due("line(0) after cleaning", x.line(0), 0);
    }

    private static void made() {
        promise = 17;
        FeedMixes x = tenAndThirteen();
        x.run(1);
        due("made() after a run alone", x.made(), 0);
        x.line(0);
        x.line(1);
        due("made() of two", x.made(), 2);
        x.line(2);
        x.line(9);
        due("made() after what did not go", x.made(), 2);
        x.clean();
        due("made() after cleaning", x.made(), 2);
        for (int time = 0; time < 300; time++) {
            x.line(3);
        }
        due("made() of many", x.made(), 302);
    }
}
