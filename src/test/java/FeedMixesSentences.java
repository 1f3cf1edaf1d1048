import java.io.IOException;
import java.lang.reflect.Method;
import java.lang.reflect.Modifier;
import java.nio.file.Files;
import java.nio.file.Path;
import java.util.ArrayList;
import java.util.Arrays;
import java.util.List;
import java.util.Set;
import java.util.TreeSet;

/**
 * The document from its first line to its last: each sentence in its words, with calls that would answer otherwise if it
 * were broken. The document itself is read too, so that a sentence without a test here is told.
 */
public final class FeedMixesSentences {
    private static final Path DOCUMENT = Path.of("..", "shared", "DOC.md");
    private static final int NONE = FeedMixes.NONE;
    private static final int LOW = Integer.MIN_VALUE;
    private static final int HIGH = Integer.MAX_VALUE;

    private static final List<String> SAID = new ArrayList<>();

    private static int wrong = 0;
    private static int asked = 0;

    public static void main(String[] args) throws IOException {
        whatItIs();
        termsOfStuffs();
        termsOfMixes();
        promisesOfWhatIsTold();
        promisesOfRuns();
        promisesOfTheLine();
        notPromised();
        if (Files.exists(DOCUMENT)) {
            compareWithDocument(Files.readAllLines(DOCUMENT));
        } else {
            System.out.println("the document is not at " + DOCUMENT + ", so it is not looked up");
        }
        System.out.println(SAID.size() + " sentences, " + asked + " answers; "
                + (wrong == 0 ? "all are as due" : wrong + " things are not as due"));
        if (wrong != 0) {
            System.exit(1);
        }
    }

    // ---- sentences ----

    private static void says(String sentence, Runnable test) {
        SAID.add(sentence);
        int before = asked;
        test.run();
        if (asked == before) {
            tell("nothing was asked");
        }
    }

    /** A sentence that lets free what is done: there is nothing that could break it. */
    private static void frees(String sentence) {
        SAID.add(sentence);
    }

    private static void tell(String what) {
        wrong++;
        System.out.println("'" + SAID.get(SAID.size() - 1) + "': " + what);
    }

    private static void whatItIs() {
        says("Feeds mixed at least cost: stuffs at prices, in stock, with what they hold of nutrients; a mix of a told "
                + "weight keeps every bound exactly, in fractions, and is the cheapest that does, of several the first; "
                + "whole silos; bounds that clash, none of which can go; what a nutrient costs; a line on which "
                + "medicines are kept apart.", () -> {
            oneDayOfMixing();
            clashesOfWhichNoneCanGo();
        });
        says("An object is used for at most 512 calls after it has been made; what later calls answer is free.",
                FeedMixesSentences::manyCalls);
    }

    private static void termsOfStuffs() {
        says("STUFFS are 0, 1, .. as they come, 4 at most,", FeedMixesSentences::stuffsAsTheyCome);
        says("each with a PRICE (0 .. 1000 for a kilogram),", FeedMixesSentences::prices);
        says("a STOCK (0 .. 40 kilograms),", FeedMixesSentences::stocks);
        says("for each NUTRIENT 0 .. 2 how many POINTS of it a kilogram HOLDS (0 .. 40, 0 at first),",
                FeedMixesSentences::points);
        says("SHARES (a least and a most, 0 .. 10 tenths of the mix; 0 and 10 at first),",
                FeedMixesSentences::sharesOfTheMix);
        says("and a SILO (0, none, at first; or 5 .. 40 kilograms).", FeedMixesSentences::siloSizes);
        says("NEEDS: of each nutrient a least and a most, 0 .. 40 points for a kilogram of the mix (0 and 40 at first).",
                FeedMixesSentences::needs);
    }

    private static void termsOfMixes() {
        says("A MIX of W kilograms is an amount of each stuff, a fraction not below 0, all together W.",
                FeedMixesSentences::mixes);
        says("Its BOUNDS: 0 to 3: of stuff 0 .. 3 it has no more than the stock;", FeedMixesSentences::boundsOfStock);
        says("4 to 7: of stuff 0 .. 3 no less than the least share of W;", FeedMixesSentences::boundsOfLeastShare);
        says("8 to 11: no more than the most share;", FeedMixesSentences::boundsOfMostShare);
        says("12 to 14: of nutrient 0 .. 2 (the sum of each amount times its points) no less than W times the least need;",
                FeedMixesSentences::boundsOfLeastNeed);
        says("15 to 17: no more than W times the most.", FeedMixesSentences::boundsOfMostNeed);
        says("(Bounds of stuffs that there are not are none.)", FeedMixesSentences::boundsOfNoStuffs);
        says("It is GOOD if it keeps all bounds, and has of each stuff with a silo a whole number of times that "
                + "(perhaps 0).", FeedMixesSentences::goodMixes);
        says("THE BEST MIX is the good one of least COST (the sum of each amount times its price);",
                FeedMixesSentences::leastCost);
        says("of several the one with the least of stuff 0, of these with the least of stuff 1, and so on.",
                FeedMixesSentences::firstOfSeveral);
        says("CLASHING bounds are told when no mix keeps all of them, silos or not:",
                FeedMixesSentences::clashingOrNot);
        says("bounds 0, 1, .. 17 are gone over, each is left out if no mix keeps all the others that are left; those "
                + "that are left in the end clash.", FeedMixesSentences::clashingInOrder);
        says("FRACTIONS are told in lowest terms, part 0 the number above, part 1 that below, which is 1 or more.",
                FeedMixesSentences::fractions);
        says("A call that is refused changes nothing.", FeedMixesSentences::refusedCalls);
    }

    private static void promisesOfWhatIsTold() {
        says("No stuffs; needs as at first; no run was made; the line is clean.", FeedMixesSentences::newObject);
        says("One more stuff, with a price and a stock: its number;", FeedMixesSentences::oneMoreStuff);
        says("NONE: there are 4, or these are not such.", FeedMixesSentences::noMoreStuff);
        says("A price becomes another one: what it was.", FeedMixesSentences::priceBecomes);
        says("NONE: no such stuff, price.", () -> noSuch((x, a) -> x.price(a[0], a[1]), NONE,
                new int[][] {{-1, 5}, {2, 5}, {LOW, 5}, {HIGH, 5}, {0, -1}, {0, 1001}, {1, LOW}, {1, HIGH}}));
        says("A stock becomes another one: what it was.", FeedMixesSentences::stockBecomes);
        says("NONE: no such stuff, stock.", () -> noSuch((x, a) -> x.stock(a[0], a[1]), NONE,
                new int[][] {{-1, 5}, {2, 5}, {LOW, 5}, {HIGH, 5}, {0, -1}, {0, 41}, {1, LOW}, {1, HIGH}}));
        says("How many points of a nutrient a stuff holds.", FeedMixesSentences::pointsHeld);
        says("False: no such stuff, nutrient, points.", () -> noSuch((x, a) -> number(x.holds(a[0], a[1], a[2])), 0,
                new int[][] {{-1, 0, 5}, {2, 0, 5}, {HIGH, 0, 5}, {0, -1, 5}, {0, 3, 5}, {0, LOW, 5}, {1, 2, -1},
                    {1, 2, 41}, {1, 2, HIGH}}));
        says("The needs of a nutrient.", FeedMixesSentences::needsTold);
        says("False: none such, not such numbers, or least is above most.",
                () -> noSuch((x, a) -> number(x.need(a[0], a[1], a[2])), 0, new int[][] {{-1, 0, 5}, {3, 0, 5},
                    {HIGH, 0, 5}, {0, -1, 5}, {1, 5, 41}, {2, 41, 41}, {2, LOW, HIGH}, {0, 6, 5}, {1, 40, 0}}));
        says("The shares of a stuff.", FeedMixesSentences::sharesTold);
        says("False: none such, not such numbers, or least is above most.",
                () -> noSuch((x, a) -> number(x.shares(a[0], a[1], a[2])), 0, new int[][] {{-1, 0, 5}, {2, 0, 5},
                    {HIGH, 0, 5}, {0, -1, 5}, {1, 5, 11}, {1, 11, 11}, {0, LOW, HIGH}, {0, 6, 5}, {1, 10, 0}}));
        says("A stuff's silo.", FeedMixesSentences::siloTold);
        says("False: no such stuff, or size is neither 0 nor 5 .. 40.",
                () -> noSuch((x, a) -> number(x.silo(a[0], a[1])), 0, new int[][] {{-1, 5}, {2, 0}, {HIGH, 5}, {0, 1},
                    {0, 4}, {1, 41}, {1, -1}, {1, -5}, {0, LOW}, {0, HIGH}}));
    }

    private static void promisesOfRuns() {
        says("A RUN for w kilograms: 0: the best mix is MADE; 1: bounds clash; 2: some mix keeps all bounds, but none is "
                + "good.", FeedMixesSentences::threeKindsOfRuns);
        says("NONE: w is not 1 .. 40, or there are no stuffs.", FeedMixesSentences::noRuns);
        says("(What is told below of the last run is as it was then, whatever changes later.)",
                FeedMixesSentences::asItWasThen);
        says("The amount of a stuff in the mix that the last run made.", FeedMixesSentences::amountsOfTheLastRun);
        says("NONE: it made none; no such stuff then, or part.", FeedMixesSentences::noAmounts);
        says("The cost of that.", FeedMixesSentences::costOfTheLastRun);
        says("NONE: the last run made none; no such part.", FeedMixesSentences::noCost);
        says("The bounds that that mix meets just, 2 to the power of each, together.", FeedMixesSentences::metJust);
        says("NONE: the last run made none.", () -> noneWithoutAMix(x -> x.tight(), bits(1, 4, 9, 12, 13, 14)));
        says("The k-th (from 0 on, by numbers) of the bounds that clash, if the last run answered 1.",
                FeedMixesSentences::clashByNumbers);
        says("NONE: it did not, or there is none such.", FeedMixesSentences::noClash);
        says("By how much the best mix of as many kilograms as the last run's, as all is now, would cost more if the "
                + "least need of a nutrient were one point more.", FeedMixesSentences::onePointMore);
        says("NONE: no run was made; no such nutrient, part; its least need is its most; there is no good mix, now or "
                + "then.", FeedMixesSentences::noPointMore);
    }

    private static void promisesOfTheLine() {
        says("The mix that the last run made goes over the line, with a medicine (1 .. 3) or none (0): 0;",
                FeedMixesSentences::overTheLine);
        says("1, and nothing is done: a medicine is on it, and this is not the same.",
                FeedMixesSentences::keptFromTheLine);
        says("NONE: no such medicine, or the last run made none.", FeedMixesSentences::notForTheLine);
        says("The line is cleaned: which medicine was on it (0: none).", FeedMixesSentences::cleaned);
        says("How many mixes went over the line.", FeedMixesSentences::countOfMixes);
    }

    private static void notPromised() {
        frees("How the state is held inside the object is free, as are the speed of each call, the text of toString and "
                + "the behaviour of equals and hashCode.");
        frees("Use of one object from several threads at once is not promised to be safe.");
        frees("Nothing is promised beyond the answers and state changes described above, and nothing about an object "
                + "after its 512th call.");
    }

    // ---- what is due ----

    private interface Call {
        long on(FeedMixes x, int[] numbers);
    }

    private interface Question {
        long to(FeedMixes x);
    }

    private static void due(String call, long got, long want) {
        asked++;
        if (got != want) {
            tell(call + " answered " + got + ", due is " + want);
        }
    }

    private static void yes(String call, boolean got) {
        due(call, number(got), 1);
    }

    private static long number(boolean answer) {
        return answer ? 1 : 0;
    }

    private static void amountDue(FeedMixes x, int stuff, long above, long below) {
        due("amount(" + stuff + ", 0)", x.amount(stuff, 0), above);
        due("amount(" + stuff + ", 1)", x.amount(stuff, 1), below);
    }

    /** A run that makes a mix of whole amounts. */
    private static void mixDue(FeedMixes x, int w, long... amounts) {
        due("run(" + w + ")", x.run(w), 0);
        for (int stuff = 0; stuff < amounts.length; stuff++) {
            amountDue(x, stuff, amounts[stuff], 1);
        }
    }

    private static void costDue(FeedMixes x, long above, long below) {
        due("cost(0)", x.cost(0), above);
        due("cost(1)", x.cost(1), below);
    }

    private static void dearerDue(FeedMixes x, int nutrient, long above, long below) {
        due("dearer(" + nutrient + ", 0)", x.dearer(nutrient, 0), above);
        due("dearer(" + nutrient + ", 1)", x.dearer(nutrient, 1), below);
    }

    private static void clashDue(FeedMixes x, int w, int... bounds) {
        due("run(" + w + ")", x.run(w), 1);
        for (int k = 0; k < bounds.length; k++) {
            due("clash(" + k + ")", x.clash(k), bounds[k]);
        }
        due("clash(" + bounds.length + ")", x.clash(bounds.length), NONE);
    }

    private static int bits(int... bounds) {
        int all = 0;
        for (int bound : bounds) {
            all |= 1 << bound;
        }
        return all;
    }

    private static void tightDue(FeedMixes x, int bound, boolean isTight) {
        due("tight() at bound " + bound, x.tight() >> bound & 1, number(isTight));
    }

    // ---- objects to begin with ----

    private static FeedMixes stuffs(int... prices) {
        FeedMixes x = new FeedMixes();
        for (int price : prices) {
            x.stuff(price, 40);
        }
        return x;
    }

    /** Meal at 2 with 4 points of nutrient 1, cake at 5 with 10: for 6 points two thirds are of meal. */
    private static FeedMixes mealAndCake() {
        FeedMixes x = stuffs(2, 5);
        x.holds(0, 1, 4);
        x.holds(1, 1, 10);
        x.need(1, 6, 20);
        return x;
    }

    /** Calls that are refused on an object with a mix, after which a run makes that mix again. */
    private static void noSuch(Call call, long answer, int[][] all) {
        FeedMixes x = mealAndCake();
        due("run(6)", x.run(6), 0);
        for (int[] numbers : all) {
            due("the call with " + Arrays.toString(numbers), call.on(x, numbers), answer);
        }
        mixDue(x, 6, 4, 2);
        costDue(x, 18, 1);
        due("tight()", x.tight(), bits(12, 13, 14));
    }

    private static void noneWithoutAMix(Question question, long answerWithMix) {
        FeedMixes x = new FeedMixes();
        due("before stuffs", question.to(x), NONE);
        x.stuff(3, 40);
        x.stuff(2, 10);
        due("before a run", question.to(x), NONE);
        x.run(41);
        due("after a refused run", question.to(x), NONE);
        x.shares(0, 0, 1);
        due("run(12)", x.run(12), 1);
        due("after a clash", question.to(x), NONE);
        x.silo(1, 8);
        due("run(10)", x.run(10), 2);
        due("after a run without a good mix", question.to(x), NONE);
        x.silo(1, 0);
        due("run(10)", x.run(10), 0);
        due("after a mix", question.to(x), answerWithMix);
        x.run(0);
        due("after a mix and a refused run", question.to(x), answerWithMix);
    }

    // ---- what it is ----

    private static void oneDayOfMixing() {
        FeedMixes x = new FeedMixes();
        due("stuff(10, 40)", x.stuff(10, 40), 0);
        due("stuff(30, 40)", x.stuff(30, 40), 1);
        yes("holds(0, 0, 5)", x.holds(0, 0, 5));
        yes("holds(1, 0, 40)", x.holds(1, 0, 40));
        yes("need(0, 18, 22)", x.need(0, 18, 22));
        due("run(20)", x.run(20), 0);
        amountDue(x, 0, 88, 7);
        amountDue(x, 1, 52, 7);
        costDue(x, 2440, 7);
        dearerDue(x, 0, 80, 7);
        yes("silo(1, 8)", x.silo(1, 8));
        mixDue(x, 20, 12, 8);
        due("line(2)", x.line(2), 0);
        due("line(1)", x.line(1), 1);
        // A silo of 10 kilograms holds too much, none too little.
        yes("silo(1, 10)", x.silo(1, 10));
        due("run(20)", x.run(20), 2);
        x.stock(1, 7);
        clashDue(x, 20, 1, 12);
    }

    private static void clashesOfWhichNoneCanGo() {
        int clashes = 0;
        for (int kind = 0; kind < 400; kind++) {
            FeedMixes x = new FeedMixes();
            int[][] told = tellOf(x, kind);
            if (x.run(20) == 1) {
                clashes++;
                List<Integer> bounds = new ArrayList<>();
                for (int k = 0; x.clash(k) != NONE; k++) {
                    bounds.add(x.clash(k));
                }
                noneCanGo(kind, told, bounds);
            }
        }
        due("more than 100 of 400 clash", number(clashes > 100), 1);
    }

    /** The numbers of the 18 bounds, as told; they and the points follow from the kind in a tangled way. */
    private static int[][] tellOf(FeedMixes x, int kind) {
        int[] stock = new int[4];
        int[][] shares = new int[4][2];
        int[][] needs = new int[3][2];
        for (int stuff = 0; stuff < 4; stuff++) {
            stock[stuff] = tangled(kind, stuff, 24);
            shares[stuff][0] = tangled(kind, 10 + stuff, 4);
            shares[stuff][1] = shares[stuff][0] + tangled(kind, 20 + stuff, 6);
            x.stuff(tangled(kind, 30 + stuff, 100), stock[stuff]);
            x.shares(stuff, shares[stuff][0], shares[stuff][1]);
            for (int nutrient = 0; nutrient < 3; nutrient++) {
                x.holds(stuff, nutrient, tangled(kind, 40 + 4 * nutrient + stuff, 41));
            }
        }
        for (int nutrient = 0; nutrient < 3; nutrient++) {
            needs[nutrient][0] = tangled(kind, 60 + nutrient, 25);
            needs[nutrient][1] = needs[nutrient][0] + tangled(kind, 70 + nutrient, 16);
            x.need(nutrient, needs[nutrient][0], needs[nutrient][1]);
        }
        int[][] told = new int[18][];
        for (int bound = 0; bound < 18; bound++) {
            int[] range = bound < 12 ? shares[bound % 4] : needs[bound % 3];
            told[bound] = bound < 4 ? new int[] {stock[bound]} : range;
        }
        return told;
    }

    private static int tangled(int kind, int place, int below) {
        long number = (kind * 1009L + place + 1) * 2654435761L;
        return (int) ((number >>> 13) % below);
    }

    /** With the bounds that clash alone they clash still, and without any one of them a mix keeps the others. */
    private static void noneCanGo(int kind, int[][] told, List<Integer> bounds) {
        FeedMixes x = new FeedMixes();
        tellOf(x, kind);
        for (int bound = 0; bound < 18; bound++) {
            setBound(x, told, bound, bounds);
        }
        int[] all = new int[bounds.size()];
        for (int k = 0; k < all.length; k++) {
            all[k] = bounds.get(k);
        }
        clashDue(x, 20, all);
        for (int gone : all) {
            List<Integer> others = new ArrayList<>(bounds);
            others.remove(Integer.valueOf(gone));
            setBound(x, told, gone, others);
            due("run(20) of kind " + kind + " without bound " + gone, x.run(20), 0);
            setBound(x, told, gone, bounds);
        }
    }

    /** A bound, and the other end of its range, as told if they are to be kept, or so wide that every mix keeps them. */
    private static void setBound(FeedMixes x, int[][] told, int bound, List<Integer> kept) {
        if (bound < 4) {
            x.stock(bound, kept.contains(bound) ? told[bound][0] : 40);
        } else if (bound < 12) {
            int stuff = bound % 4;
            x.shares(stuff, kept.contains(4 + stuff) ? told[bound][0] : 0, kept.contains(8 + stuff) ? told[bound][1] : 10);
        } else {
            int nutrient = bound % 3;
            x.need(nutrient, kept.contains(12 + nutrient) ? told[bound][0] : 0,
                    kept.contains(15 + nutrient) ? told[bound][1] : 40);
        }
    }

    private static void manyCalls() {
        FeedMixes x = mealAndCake();
        for (int call = 6; call <= 510; call++) {
            x.run(1 + call % 40);
        }
        due("run(6) as call 511", x.run(6), 0);
        due("amount(1, 0) as call 512", x.amount(1, 0), 2);
        // What these answer is free; that they end, and throw nothing, is not.
        for (int call = 513; call <= 5000; call++) {
            x.line(call % 5);
            x.run(call % 42);
            x.dearer(call % 4, call % 3);
        }
    }

    // ---- terms of stuffs ----

    private static void stuffsAsTheyCome() {
        FeedMixes x = new FeedMixes();
        for (int stuff = 0; stuff < 4; stuff++) {
            due("price of the next stuff", x.price(stuff, 1), NONE);
            due("stuff(7, 8)", x.stuff(7, 8), stuff);
            due("price of it", x.price(stuff, 100 + stuff), 7);
        }
        due("a fifth", x.stuff(7, 8), NONE);
        for (int stuff = 0; stuff < 4; stuff++) {
            due("price", x.price(stuff, 1), 100 + stuff);
        }
    }

    private static void prices() {
        FeedMixes x = stuffs(0);
        mixDue(x, 3, 3);
        costDue(x, 0, 1);
        due("price(0, 1000)", x.price(0, 1000), 0);
        mixDue(x, 3, 3);
        costDue(x, 3000, 1);
        due("price(0, 1001)", x.price(0, 1001), NONE);
        due("price(0, -1)", x.price(0, -1), NONE);
        due("stuff(1001, 1)", x.stuff(1001, 1), NONE);
        due("stuff(-1, 1)", x.stuff(-1, 1), NONE);
    }

    private static void stocks() {
        FeedMixes x = new FeedMixes();
        due("stuff(1, 41)", x.stuff(1, 41), NONE);
        due("stuff(1, -1)", x.stuff(1, -1), NONE);
        due("stuff(1, 40)", x.stuff(1, 40), 0);
        due("stuff(2, 0)", x.stuff(2, 0), 1);
        mixDue(x, 40, 40, 0);
        due("stock(0, 0)", x.stock(0, 0), 40);
        clashDue(x, 1, 0, 1);
        due("stock(1, 1)", x.stock(1, 1), 0);
        mixDue(x, 1, 0, 1);
    }

    private static void points() {
        for (int nutrient = 0; nutrient < 3; nutrient++) {
            FeedMixes x = stuffs(1);
            x.need(nutrient, 0, 0);
            mixDue(x, 4, 4);
            for (int points : new int[] {0, 1, 39, 40}) {
                yes("holds", x.holds(0, nutrient, points));
                x.need(nutrient, points, points);
                mixDue(x, 4, 4);
            }
            due("holds of 41", number(x.holds(0, nutrient, 41)), 0);
            due("holds of -1", number(x.holds(0, nutrient, -1)), 0);
        }
    }

    private static void sharesOfTheMix() {
        FeedMixes x = stuffs(1, 9);
        mixDue(x, 30, 30, 0);
        for (int tenths = 0; tenths <= 10; tenths++) {
            yes("shares(1, ..)", x.shares(1, tenths, 10));
            mixDue(x, 30, 30 - 3 * tenths, 3 * tenths);
        }
        x.shares(1, 0, 10);
        for (int tenths = 0; tenths <= 10; tenths++) {
            yes("shares(0, ..)", x.shares(0, 0, tenths));
            mixDue(x, 30, 3 * tenths, 30 - 3 * tenths);
        }
    }

    private static void siloSizes() {
        FeedMixes x = stuffs(1, 9);
        mixDue(x, 1, 1, 0);
        for (int size = 5; size <= 40; size++) {
            yes("silo(0, " + size + ")", x.silo(0, size));
            mixDue(x, size, size, 0);
            mixDue(x, size - 1, 0, size - 1);
        }
        yes("silo(0, 0)", x.silo(0, 0));
        mixDue(x, 4, 4, 0);
    }

    private static void needs() {
        for (int nutrient = 0; nutrient < 3; nutrient++) {
            FeedMixes x = stuffs(5);
            due("run(1) of no points", x.run(1), 0);
            x.holds(0, nutrient, 40);
            due("run(1) of 40 points", x.run(1), 0);
            // Of 40 kilograms, as many hold 40 points as the mix needs for a kilogram.
            x.stuff(1, 40);
            for (int need = 0; need <= 40; need += 8) {
                yes("need(.., " + need + ", 40)", x.need(nutrient, need, 40));
                mixDue(x, 40, need, 40 - need);
            }
            x.price(1, 9);
            for (int need = 0; need <= 40; need += 8) {
                yes("need(.., 0, " + need + ")", x.need(nutrient, 0, need));
                mixDue(x, 40, need, 40 - need);
            }
        }
    }

    // ---- terms of mixes ----

    private static void mixes() {
        FeedMixes x = mealAndCake();
        for (int w = 1; w <= 40; w++) {
            due("run(" + w + ")", x.run(w), 0);
            due("amount 0 is two thirds", 3 * x.amount(0, 0), 2L * w * x.amount(0, 1));
            due("amount 1 is the rest", 3 * x.amount(1, 0), w * x.amount(1, 1));
        }
        // 11 points could be had with less than nothing of the meal alone.
        x.need(1, 11, 20);
        clashDue(x, 6, 13);
        x.need(1, 10, 20);
        mixDue(x, 6, 0, 6);
    }

    private static int[] withOthers(int own, int first, int stuff) {
        Set<Integer> bounds = new TreeSet<>(List.of(own));
        for (int other = 0; other < 4; other++) {
            if (other != stuff) {
                bounds.add(first + other);
            }
        }
        return bounds.stream().mapToInt(Integer::intValue).toArray();
    }

    private static void boundsOfStock() {
        for (int stuff = 0; stuff < 4; stuff++) {
            FeedMixes x = stuffs(5, 5, 5, 5);
            for (int other = 0; other < 4; other++) {
                x.shares(other, 0, other == stuff ? 10 : 0);
            }
            x.stock(stuff, 13);
            due("run(12)", x.run(12), 0);
            tightDue(x, stuff, false);
            due("run(13)", x.run(13), 0);
            tightDue(x, stuff, true);
            clashDue(x, 14, withOthers(stuff, 8, stuff));
        }
    }

    private static void boundsOfLeastShare() {
        for (int stuff = 0; stuff < 4; stuff++) {
            FeedMixes x = stuffs(5, 5, 5, 5);
            x.price(stuff, 6);
            x.shares(stuff, 7, 10);
            due("run(9)", x.run(9), 0);
            amountDue(x, stuff, 63, 10);
            tightDue(x, 4 + stuff, true);
            x.price(stuff, 4);
            due("run(9)", x.run(9), 0);
            tightDue(x, 4 + stuff, false);
            x.holds(stuff, 2, 10);
            x.need(2, 0, 7);
            due("run(9)", x.run(9), 0);
            x.need(2, 0, 6);
            clashDue(x, 9, 4 + stuff, 17);
        }
    }

    private static void boundsOfMostShare() {
        for (int stuff = 0; stuff < 4; stuff++) {
            FeedMixes x = stuffs(5, 5, 5, 5);
            x.price(stuff, 4);
            x.shares(stuff, 0, 7);
            due("run(9)", x.run(9), 0);
            amountDue(x, stuff, 63, 10);
            tightDue(x, 8 + stuff, true);
            x.price(stuff, 6);
            due("run(9)", x.run(9), 0);
            tightDue(x, 8 + stuff, false);
            x.holds(stuff, 2, 10);
            x.need(2, 7, 40);
            due("run(9)", x.run(9), 0);
            x.need(2, 8, 40);
            clashDue(x, 9, 8 + stuff, 14);
        }
    }

    /** Amounts 1, 2, 3 and 4, which hold 4 + 10 + 18 + 28 points: 6 for each of the 10 kilograms. */
    private static FeedMixes sixPoints(int nutrient) {
        FeedMixes x = stuffs(5, 5, 5, 5);
        for (int stuff = 0; stuff < 4; stuff++) {
            x.shares(stuff, 1 + stuff, 1 + stuff);
            x.holds(stuff, nutrient, 4 + stuff);
        }
        return x;
    }

    private static void boundsOfLeastNeed() {
        for (int nutrient = 0; nutrient < 3; nutrient++) {
            FeedMixes x = sixPoints(nutrient);
            x.need(nutrient, 5, 40);
            mixDue(x, 10, 1, 2, 3, 4);
            tightDue(x, 12 + nutrient, false);
            x.need(nutrient, 6, 40);
            mixDue(x, 10, 1, 2, 3, 4);
            tightDue(x, 12 + nutrient, true);
            x.need(nutrient, 7, 40);
            due("run(10)", x.run(10), 1);
            due("whether bound " + (12 + nutrient) + " clashes", number(isOfClash(x, 12 + nutrient)), 1);
        }
    }

    private static void boundsOfMostNeed() {
        for (int nutrient = 0; nutrient < 3; nutrient++) {
            FeedMixes x = sixPoints(nutrient);
            x.need(nutrient, 0, 7);
            mixDue(x, 10, 1, 2, 3, 4);
            tightDue(x, 15 + nutrient, false);
            x.need(nutrient, 0, 6);
            mixDue(x, 10, 1, 2, 3, 4);
            tightDue(x, 15 + nutrient, true);
            x.need(nutrient, 0, 5);
            due("run(10)", x.run(10), 1);
            due("whether bound " + (15 + nutrient) + " clashes", number(isOfClash(x, 15 + nutrient)), 1);
        }
    }

    private static boolean isOfClash(FeedMixes x, int bound) {
        for (int k = 0; k < 18; k++) {
            if (x.clash(k) == bound) {
                return true;
            }
        }
        return false;
    }

    private static void boundsOfNoStuffs() {
        FeedMixes x = new FeedMixes();
        x.stuff(5, 8);
        // Of the stuffs 1 to 3 there is none: not even just none in stock.
        mixDue(x, 8, 8);
        due("tight()", x.tight(), bits(0, 8, 12, 13, 14));
        clashDue(x, 9, 0);
        x.stuff(5, 0);
        mixDue(x, 8, 8, 0);
        due("tight()", x.tight(), bits(0, 1, 5, 8, 12, 13, 14));
        clashDue(x, 9, 0, 1);
    }

    private static void goodMixes() {
        FeedMixes x = stuffs(1, 2, 9);
        x.silo(0, 7);
        x.silo(1, 6);
        // 21 of the first and no silo of the second leave 2; so do 14 and 6, but for 3.
        mixDue(x, 23, 21, 0, 2);
        x.shares(2, 0, 0);
        mixDue(x, 26, 14, 12, 0);
        mixDue(x, 21, 21, 0, 0);
        mixDue(x, 24, 0, 24, 0);
        due("run(23)", x.run(23), 2);
        x.stock(0, 13);
        due("run(26)", x.run(26), 2);
        x.stock(0, 14);
        mixDue(x, 26, 14, 12, 0);
        x.silo(0, 0);
        x.stock(0, 13);
        mixDue(x, 25, 13, 12, 0);
    }

    private static void leastCost() {
        FeedMixes x = stuffs(700, 300, 500);
        mixDue(x, 11, 0, 11, 0);
        costDue(x, 3300, 1);
        x.stock(1, 6);
        mixDue(x, 11, 0, 6, 5);
        costDue(x, 1800 + 2500, 1);
        // The cheaper of two ways to 20 points: 1/2 at 700 with 1/2 at 300, or all at 501.
        x.stock(1, 40);
        x.holds(0, 2, 40);
        x.holds(2, 2, 20);
        x.need(2, 20, 40);
        x.price(2, 501);
        mixDue(x, 12, 6, 6, 0);
        costDue(x, 6000, 1);
        x.price(2, 499);
        mixDue(x, 12, 0, 0, 12);
        costDue(x, 5988, 1);
    }

    private static void firstOfSeveral() {
        FeedMixes x = stuffs(3, 3, 3, 3);
        mixDue(x, 16, 0, 0, 0, 16);
        x.stock(3, 5);
        mixDue(x, 16, 0, 0, 11, 5);
        x.stock(2, 4);
        mixDue(x, 16, 0, 7, 4, 5);
        x.stock(1, 1);
        mixDue(x, 16, 6, 1, 4, 5);
        // All of the second is as dear as half of the first with half of the third: no more of the first than need be.
        FeedMixes y = stuffs(1, 2, 3);
        for (int stuff = 0; stuff < 3; stuff++) {
            y.holds(stuff, 0, stuff);
        }
        y.need(0, 1, 1);
        mixDue(y, 16, 0, 16, 0);
        y.stock(1, 10);
        mixDue(y, 16, 3, 10, 3);
    }

    private static void clashingOrNot() {
        FeedMixes x = stuffs(5, 5);
        x.stock(0, 8);
        x.stock(1, 8);
        clashDue(x, 17, 0, 1);
        x.silo(0, 9);
        x.silo(1, 9);
        clashDue(x, 17, 0, 1);
        due("run(16)", x.run(16), 2);
        due("clash(0)", x.clash(0), NONE);
        x.silo(0, 8);
        x.silo(1, 8);
        mixDue(x, 16, 8, 8);
        due("clash(0)", x.clash(0), NONE);
    }

    private static void clashingInOrder() {
        FeedMixes x = stuffs(5, 5);
        x.stock(0, 3);
        x.stock(1, 3);
        clashDue(x, 10, 0, 1);
        // Each of these alone would do: what comes later is left.
        x.shares(0, 6, 10);
        x.shares(1, 6, 10);
        clashDue(x, 10, 4, 5);
        x.shares(0, 4, 4);
        x.shares(1, 5, 5);
        clashDue(x, 10, 8, 9);
        x.need(0, 3, 40);
        clashDue(x, 10, 12);
        x.need(1, 2, 40);
        clashDue(x, 10, 13);
        x.need(2, 1, 40);
        clashDue(x, 10, 14);
        for (int nutrient = 0; nutrient < 3; nutrient++) {
            x.holds(0, nutrient, 40);
            x.holds(1, nutrient, 40);
            x.need(nutrient, 1, 39);
            clashDue(x, 10, 15 + nutrient);
        }
    }

    private static void fractions() {
        FeedMixes x = mealAndCake();
        due("run(8)", x.run(8), 0);
        amountDue(x, 0, 16, 3);
        amountDue(x, 1, 8, 3);
        costDue(x, 24, 1);
        dearerDue(x, 1, 4, 1);
        due("run(9)", x.run(9), 0);
        amountDue(x, 0, 6, 1);
        dearerDue(x, 1, 9, 2);
        x.need(1, 4, 20);
        due("run(9)", x.run(9), 0);
        amountDue(x, 1, 0, 1);
        x.price(0, 0);
        x.price(1, 0);
        due("run(9)", x.run(9), 0);
        costDue(x, 0, 1);
        dearerDue(x, 1, 0, 1);
    }

    /** Every call with numbers of which one is refused, between two looks at an object with a mix and a medicine. */
    private static void refusedCalls() {
        FeedMixes x = mealAndCake();
        x.run(6);
        x.line(2);
        int[] wrongs = {-1, 4, 41, 1001, LOW, HIGH};
        for (int no : wrongs) {
            due("stuff", x.stuff(no == 4 || no == 41 ? -no : no, 40), NONE);
            due("stuff", x.stuff(1, no == 4 ? -4 : no), NONE);
            due("price", x.price(no, 1), NONE);
            due("stock", x.stock(no, 1), NONE);
            due("holds", number(x.holds(no, 1, 1)), 0);
            due("holds", number(x.holds(0, no, 1)), 0);
            due("need", number(x.need(no, 1, 2)), 0);
            due("shares", number(x.shares(no, 1, 2)), 0);
            due("silo", number(x.silo(no, 5)), 0);
            due("silo", number(x.silo(0, no)), 0);
            due("run", x.run(no == 4 ? 0 : no), NONE);
            due("line", x.line(no), NONE);
            due("amount", x.amount(no, 0), NONE);
            due("cost", x.cost(no), NONE);
            due("dearer", x.dearer(no, 0), NONE);
            amountDue(x, 0, 4, 1);
            dearerDue(x, 1, 3, 1);
        }
        due("made()", x.made(), 1);
        due("clean()", x.clean(), 2);
        mixDue(x, 6, 4, 2);
        costDue(x, 18, 1);
        due("stuff(1, 1)", x.stuff(1, 1), 2);
    }

    // ---- promises 1 to 8 ----

    private static void newObject() {
        FeedMixes x = new FeedMixes();
        due("run(1)", x.run(1), NONE);
        due("stock(0, 1)", x.stock(0, 1), NONE);
        due("dearer(0, 0)", x.dearer(0, 0), NONE);
        due("tight()", x.tight(), NONE);
        due("clash(0)", x.clash(0), NONE);
        due("clean()", x.clean(), 0);
        due("made()", x.made(), 0);
        due("stuff(1, 40)", x.stuff(1, 40), 0);
        due("dearer(0, 0) without a run", x.dearer(0, 0), NONE);
        due("run(1)", x.run(1), 0);
        due("tight() at needs of 0", x.tight(), bits(8, 12, 13, 14));
        for (int nutrient = 0; nutrient < 3; nutrient++) {
            x.holds(0, nutrient, 40);
        }
        due("run(1)", x.run(1), 0);
        due("tight() at needs of 40", x.tight(), bits(8, 15, 16, 17));
    }

    private static void oneMoreStuff() {
        FeedMixes x = new FeedMixes();
        int[][] all = {{0, 40}, {1000, 0}, {17, 23}, {998, 1}};
        for (int stuff = 0; stuff < 4; stuff++) {
            due("stuff", x.stuff(all[stuff][0], all[stuff][1]), stuff);
        }
        for (int stuff = 0; stuff < 4; stuff++) {
            due("price", x.price(stuff, 1), all[stuff][0]);
            due("stock", x.stock(stuff, 1), all[stuff][1]);
        }
    }

    private static void noMoreStuff() {
        FeedMixes x = new FeedMixes();
        int[][] notSuch = {{-1, 4}, {1001, 4}, {4, -1}, {4, 41}, {LOW, 4}, {HIGH, 4}, {4, LOW}, {4, HIGH}};
        for (int stuff = 0; stuff <= 4; stuff++) {
            for (int[] each : notSuch) {
                due("stuff(" + each[0] + ", " + each[1] + ")", x.stuff(each[0], each[1]), NONE);
            }
            due("stuff(4, 4)", x.stuff(4, 4), stuff == 4 ? NONE : stuff);
        }
        due("price(4, 4)", x.price(4, 4), NONE);
    }

    private static void priceBecomes() {
        FeedMixes x = stuffs(3, 4);
        due("price(1, 2)", x.price(1, 2), 4);
        due("price(1, 2) again", x.price(1, 2), 2);
        mixDue(x, 5, 0, 5);
        costDue(x, 10, 1);
        due("price(0, 1)", x.price(0, 1), 3);
        mixDue(x, 5, 5, 0);
        costDue(x, 5, 1);
    }

    private static void stockBecomes() {
        FeedMixes x = stuffs(3, 4);
        due("stock(0, 2)", x.stock(0, 2), 40);
        due("stock(0, 2) again", x.stock(0, 2), 2);
        mixDue(x, 5, 2, 3);
        due("stock(0, 4)", x.stock(0, 4), 2);
        mixDue(x, 5, 4, 1);
        due("stock(0, 4) after a run of 4", x.stock(0, 4), 4);
    }

    private static void pointsHeld() {
        FeedMixes x = stuffs(3, 4);
        x.need(2, 10, 20);
        clashDue(x, 6, 14);
        yes("holds(1, 2, 30)", x.holds(1, 2, 30));
        mixDue(x, 6, 4, 2);
        yes("holds(1, 2, 20)", x.holds(1, 2, 20));
        mixDue(x, 6, 3, 3);
        yes("holds(1, 1, 40)", x.holds(1, 1, 40));
        mixDue(x, 6, 3, 3);
    }

    private static void needsTold() {
        FeedMixes x = mealAndCake();
        yes("need(1, 7, 9)", x.need(1, 7, 9));
        mixDue(x, 6, 3, 3);
        x.price(0, 6);
        mixDue(x, 6, 1, 5);
        yes("need(1, 5, 5)", x.need(1, 5, 5));
        mixDue(x, 6, 5, 1);
        yes("need(2, 0, 0)", x.need(2, 0, 0));
        mixDue(x, 6, 5, 1);
    }

    private static void sharesTold() {
        FeedMixes x = stuffs(3, 4);
        yes("shares(0, 0, 6)", x.shares(0, 0, 6));
        mixDue(x, 5, 3, 2);
        yes("shares(1, 6, 6)", x.shares(1, 6, 6));
        mixDue(x, 5, 2, 3);
        yes("shares(1, 0, 10)", x.shares(1, 0, 10));
        mixDue(x, 5, 3, 2);
    }

    private static void siloTold() {
        FeedMixes x = stuffs(3, 4);
        yes("silo(0, 5)", x.silo(0, 5));
        mixDue(x, 14, 10, 4);
        yes("silo(0, 14)", x.silo(0, 14));
        mixDue(x, 14, 14, 0);
        yes("silo(0, 0)", x.silo(0, 0));
        yes("silo(1, 6)", x.silo(1, 6));
        mixDue(x, 13, 13, 0);
        x.shares(1, 1, 10);
        mixDue(x, 13, 7, 6);
    }

    // ---- promises 9 to 14 ----

    private static void threeKindsOfRuns() {
        FeedMixes x = mealAndCake();
        mixDue(x, 3, 2, 1);
        x.silo(0, 5);
        x.silo(1, 5);
        due("run(3)", x.run(3), 2);
        due("run(15)", x.run(15), 0);
        amountDue(x, 0, 10, 1);
        x.need(1, 11, 20);
        due("run(15)", x.run(15), 1);
        due("clash(0)", x.clash(0), 13);
    }

    private static void noRuns() {
        FeedMixes x = new FeedMixes();
        for (int w : new int[] {1, 40, 0, 41}) {
            due("run(" + w + ") without stuffs", x.run(w), NONE);
        }
        x.stuff(1, 40);
        for (int w : new int[] {0, -1, 41, LOW, HIGH}) {
            due("run(" + w + ")", x.run(w), NONE);
        }
        for (int w = 1; w <= 40; w++) {
            due("run(" + w + ")", x.run(w), 0);
        }
    }

    private static void changeAll(FeedMixes x) {
        x.price(0, 1000);
        x.stock(0, 0);
        x.holds(1, 1, 1);
        x.need(1, 40, 40);
        x.shares(1, 0, 0);
        x.silo(1, 5);
        x.stuff(0, 40);
        x.dearer(0, 0);
        x.clean();
    }

    private static void asItWasThen() {
        FeedMixes x = mealAndCake();
        mixDue(x, 6, 4, 2);
        changeAll(x);
        amountDue(x, 0, 4, 1);
        amountDue(x, 1, 2, 1);
        costDue(x, 18, 1);
        due("tight()", x.tight(), bits(12, 13, 14));
        due("line(1)", x.line(1), 0);
        FeedMixes y = mealAndCake();
        y.stock(1, 1);
        clashDue(y, 6, 1, 13);
        changeAll(y);
        due("clash(0)", y.clash(0), 1);
        due("clash(1)", y.clash(1), 13);
        due("clash(2)", y.clash(2), NONE);
    }

    private static void amountsOfTheLastRun() {
        FeedMixes x = mealAndCake();
        due("run(10)", x.run(10), 0);
        amountDue(x, 0, 20, 3);
        amountDue(x, 1, 10, 3);
        x.need(1, 7, 20);
        amountDue(x, 0, 20, 3);
        due("run(1)", x.run(1), 0);
        amountDue(x, 0, 1, 2);
        amountDue(x, 1, 1, 2);
    }

    private static void noAmounts() {
        noneWithoutAMix(x -> x.amount(1, 0), 10);
        FeedMixes x = mealAndCake();
        x.run(6);
        for (int no : new int[] {-1, 2, 3, 4, LOW, HIGH}) {
            due("amount(" + no + ", 0)", x.amount(no, 0), NONE);
            due("amount(" + no + ", 1)", x.amount(no, 1), NONE);
            due("amount(0, " + no + ")", x.amount(0, no), NONE);
        }
        x.stuff(0, 40);
        due("amount(2, 0) of a stuff that was not then", x.amount(2, 0), NONE);
        x.shares(2, 0, 0);
        x.run(6);
        amountDue(x, 2, 0, 1);
    }

    private static void costOfTheLastRun() {
        FeedMixes x = mealAndCake();
        due("run(7)", x.run(7), 0);
        costDue(x, 21, 1);
        x.price(1, 6);
        costDue(x, 21, 1);
        due("run(7)", x.run(7), 0);
        costDue(x, 70, 3);
    }

    private static void noCost() {
        noneWithoutAMix(x -> x.cost(0), 20);
        noneWithoutAMix(x -> x.cost(1), 1);
        FeedMixes x = mealAndCake();
        x.run(6);
        for (int part : new int[] {-1, 2, LOW, HIGH}) {
            due("cost(" + part + ")", x.cost(part), NONE);
        }
    }

    private static void metJust() {
        FeedMixes x = mealAndCake();
        x.stock(1, 2);
        x.shares(1, 0, 2);
        x.need(1, 5, 6);
        due("run(10)", x.run(10), 0);
        amountDue(x, 1, 5, 3);
        due("tight()", x.tight(), 4096 + 8192 + 16384);
        x.price(0, 9);
        due("run(10)", x.run(10), 0);
        amountDue(x, 1, 2, 1);
        due("tight() of a stock and a share", x.tight(), 2 + 512 + 4096 + 16384);
        x.shares(0, 8, 8);
        x.need(1, 5, 40);
        x.holds(0, 1, 5);
        x.holds(1, 1, 5);
        due("run(10)", x.run(10), 0);
        due("tight()", x.tight(), 2 + 16 + 256 + 512 + 4096 + 8192 + 16384);
        x.need(1, 5, 5);
        due("run(10)", x.run(10), 0);
        due("tight()", x.tight(), 2 + 16 + 256 + 512 + 4096 + 8192 + 16384 + 65536);
    }

    private static void clashByNumbers() {
        FeedMixes x = stuffs(5, 5, 5, 5);
        x.stock(0, 4);
        x.shares(1, 0, 3);
        x.shares(3, 4, 4);
        x.holds(0, 2, 20);
        x.holds(1, 2, 20);
        // Of the 20 kilograms 4 and 6 hold 20 points: 10 for a kilogram.
        x.need(2, 10, 40);
        due("run(20)", x.run(20), 0);
        x.need(2, 11, 40);
        clashDue(x, 20, 0, 9, 14);
        due("clash(2) first", x.clash(2), 14);
        due("clash(0) then", x.clash(0), 0);
    }

    private static void noClash() {
        FeedMixes x = mealAndCake();
        due("clash(0) before a run", x.clash(0), NONE);
        x.run(6);
        due("clash(0) after a mix", x.clash(0), NONE);
        x.need(1, 11, 20);
        clashDue(x, 6, 13);
        for (int k : new int[] {-1, 1, 17, 18, LOW, HIGH}) {
            due("clash(" + k + ")", x.clash(k), NONE);
        }
        x.need(1, 6, 20);
        x.silo(0, 5);
        x.silo(1, 5);
        due("run(6)", x.run(6), 2);
        due("clash(0) after no good mix", x.clash(0), NONE);
    }

    private static void onePointMore() {
        FeedMixes x = mealAndCake();
        // A sixth of each kilogram becomes cake for meal, 3 dearer.
        x.run(6);
        dearerDue(x, 1, 3, 1);
        x.price(1, 8);
        dearerDue(x, 1, 6, 1);
        x.need(1, 3, 20);
        dearerDue(x, 1, 0, 1);
        x.need(1, 4, 20);
        dearerDue(x, 1, 6, 1);
        due("run(0)", x.run(0), NONE);
        dearerDue(x, 1, 6, 1);
        // Runs that make no mix are runs for their weights.
        x.need(1, 11, 20);
        due("run(12)", x.run(12), 1);
        x.need(1, 4, 20);
        dearerDue(x, 1, 12, 1);
        x.silo(0, 5);
        x.silo(1, 5);
        due("run(24)", x.run(24), 2);
        x.silo(0, 0);
        x.silo(1, 0);
        dearerDue(x, 1, 24, 1);
        x.silo(1, 6);
        dearerDue(x, 1, 36, 1);
    }

    private static void noPointMore() {
        FeedMixes x = mealAndCake();
        dearerDue(x, 1, NONE, NONE);
        x.run(41);
        dearerDue(x, 1, NONE, NONE);
        x.run(6);
        for (int no : new int[] {-1, 3, LOW, HIGH}) {
            due("dearer(" + no + ", 0)", x.dearer(no, 0), NONE);
            due("dearer(" + no + ", 1)", x.dearer(no, 1), NONE);
        }
        for (int no : new int[] {-1, 2, LOW, HIGH}) {
            due("dearer(1, " + no + ")", x.dearer(1, no), NONE);
        }
        dearerDue(x, 1, 3, 1);
        x.need(1, 6, 6);
        dearerDue(x, 1, NONE, NONE);
        x.need(1, 9, 20);
        dearerDue(x, 1, 3, 1);
        x.need(1, 10, 20);
        dearerDue(x, 1, NONE, NONE);
        x.need(1, 11, 20);
        dearerDue(x, 1, NONE, NONE);
        x.need(1, 10, 10);
        dearerDue(x, 1, NONE, NONE);
        x.need(1, 6, 20);
        x.silo(0, 5);
        x.silo(1, 5);
        dearerDue(x, 1, NONE, NONE);
        x.silo(0, 0);
        dearerDue(x, 1, 0, 1);
        x.stock(1, 4);
        dearerDue(x, 1, NONE, NONE);
    }

    // ---- promises 15 to 17 ----

    private static void overTheLine() {
        for (int medicine = 0; medicine <= 3; medicine++) {
            FeedMixes x = mealAndCake();
            x.run(6);
            due("line(" + medicine + ")", x.line(medicine), 0);
            due("line(" + medicine + ") of the same", x.line(medicine), 0);
            x.run(7);
            due("line(" + medicine + ") of another mix", x.line(medicine), 0);
            due("made()", x.made(), 3);
            due("clean()", x.clean(), medicine);
        }
    }

    private static void keptFromTheLine() {
        for (int on = 0; on <= 3; on++) {
            for (int next = 0; next <= 3; next++) {
                FeedMixes x = mealAndCake();
                x.run(6);
                x.line(on);
                boolean isKept = on != 0 && next != on;
                due("line(" + next + ") after line(" + on + ")", x.line(next), number(isKept));
                due("made()", x.made(), isKept ? 1 : 2);
                due("clean()", x.clean(), isKept ? on : next);
            }
        }
    }

    private static void notForTheLine() {
        for (int medicine = 0; medicine <= 3; medicine++) {
            int with = medicine;
            noneWithoutAMix(x -> x.line(with), 0);
        }
        FeedMixes x = mealAndCake();
        x.run(6);
        x.line(3);
        for (int no : new int[] {-1, 4, LOW, HIGH}) {
            due("line(" + no + ")", x.line(no), NONE);
        }
        due("made()", x.made(), 1);
        due("clean()", x.clean(), 3);
    }

    private static void cleaned() {
        FeedMixes x = mealAndCake();
        due("clean() of a new line", x.clean(), 0);
        x.run(6);
        x.line(0);
        due("clean() after none", x.clean(), 0);
        for (int medicine = 1; medicine <= 3; medicine++) {
            due("line(" + medicine + ")", x.line(medicine), 0);
            x.run(1 + medicine);
            due("clean()", x.clean(), medicine);
            due("clean() again", x.clean(), 0);
        }
    }

    private static void countOfMixes() {
        FeedMixes x = mealAndCake();
        x.line(1);
        due("made() before a run", x.made(), 0);
        x.run(6);
        due("made() of a mix that did not go", x.made(), 0);
        for (int count = 1; count <= 9; count++) {
            x.line(2);
            x.line(1);
            x.line(5);
            due("made()", x.made(), count);
        }
        x.clean();
        due("made() after cleaning", x.made(), 9);
    }

    // ---- the document ----

    /** Takes all that is said here from the document: nothing may be left, and nothing be said that is not there. */
    private static void compareWithDocument(List<String> lines) {
        Set<String> face = new TreeSet<>();
        StringBuilder words = new StringBuilder();
        boolean isCode = false;
        for (String line : lines) {
            if (line.startsWith("```")) {
                isCode = !isCode;
            } else if (isCode) {
                addToFace(face, line.strip());
            } else if (!line.startsWith("#")) {
                words.append(line.strip().replaceFirst("^`[^`]*`:", "")).append(' ');
            }
        }
        compareFace(face);
        String left = words.toString().replaceAll("\\s+", " ");
        for (String each : SAID) {
            int place = left.indexOf(each);
            if (place < 0) {
                wrong++;
                System.out.println("the document does not say: " + each);
            } else {
                left = left.substring(0, place) + left.substring(place + each.length());
            }
        }
        if (!left.isBlank()) {
            wrong++;
            System.out.println("the document says what has no test here: " + left.strip());
        }
    }

    private static void addToFace(Set<String> face, String line) {
        int open = line.indexOf('(');
        if (open >= 0) {
            String types = line.substring(open).replaceAll("(int|long|boolean) \\w+", "$1").replace(" ", "");
            face.add(line.substring(0, open) + types.replace(";", ""));
        }
    }

    private static void compareFace(Set<String> face) {
        Set<String> found = new TreeSet<>(Set.of("public FeedMixes()"));
        for (Method each : FeedMixes.class.getDeclaredMethods()) {
            if (Modifier.isPublic(each.getModifiers())) {
                List<String> types = new ArrayList<>();
                for (Class<?> type : each.getParameterTypes()) {
                    types.add(type.getName());
                }
                found.add("public " + each.getReturnType() + " " + each.getName() + "(" + String.join(",", types) + ")");
            }
        }
        if (!found.equals(face)) {
            wrong++;
            System.out.println("the face is " + found + ", the document's is " + face);
        }
    }
}
