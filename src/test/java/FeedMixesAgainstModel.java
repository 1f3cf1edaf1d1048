import java.util.ArrayList;
import java.util.List;
import java.util.Random;

/**
 * Random runs of calls, each answered by FeedMixes and by a slow model of the document. The model finds mixes by the
 * simplex method over fractions, so that it shares no way of thinking with the class. The argument, if any, tells how
 * many runs.
 */
public final class FeedMixesAgainstModel {
    private static int wrong = 0;
    private static int[] answersOfRuns = new int[4];
    private static int clashesOfThreeOrMore = 0;
    private static int dearerTold = 0;

    public static void main(String[] args) {
        int runs = args.length > 0 ? Integer.parseInt(args[0]) : 300;
        int first = args.length > 1 ? Integer.parseInt(args[1]) : 1;
        for (int run = first; run < first + runs && wrong < 20; run++) {
            new Game(run).play();
        }
        System.out.println("runs that were refused, made a mix, clashed, were not good: " + answersOfRuns[0] + " "
                + answersOfRuns[1] + " " + answersOfRuns[2] + " " + answersOfRuns[3] + "; three bounds clashed or more: "
                + clashesOfThreeOrMore + "; dearer was told: " + dearerTold);
        System.out.println(wrong == 0 ? "all answers are as due" : wrong + " answers are not as due");
        if (wrong != 0) {
            System.exit(1);
        }
    }

    /** One object and its model, with the calls that both got. */
    private static final class Game {
        private final int number;
        private final Random random;
        private final FeedMixes mixes = new FeedMixes();
        private final Model model = new Model();
        private final StringBuilder calls = new StringBuilder();
        private final boolean manySilos;
        private final int priceKinds;

        Game(int number) {
            this.number = number;
            this.random = new Random(number * 7919L);
            this.manySilos = random.nextInt(3) == 0;
            this.priceKinds = random.nextBoolean() ? 3 : 1001;
        }

        private void due(String call, long got, long want) {
            calls.append(call).append('=').append(got).append(' ');
            if (got != want) {
                wrong++;
                System.out.println("run " + number + ": " + call + " answered " + got + ", due is " + want
                        + ", after " + calls);
            }
        }

        private int pick(int... choices) {
            return choices[random.nextInt(choices.length)];
        }

        private int upTo(int most) {
            return random.nextInt(40) == 0 ? pick(-1, most + 1, Integer.MAX_VALUE, Integer.MIN_VALUE)
                    : random.nextInt(most + 1);
        }

        private int aPrice() {
            return priceKinds > 1000 ? upTo(1000) : upTo(priceKinds) * 10;
        }

        private int aStock() {
            return random.nextBoolean() ? pick(40, 40, 30, 20) : upTo(40);
        }

        void play() {
            int stuffs = 1 + random.nextInt(4) | random.nextInt(3);
            for (int stuff = 0; stuff < stuffs; stuff++) {
                addStuff();
                for (int nutrient = 0; nutrient < 3; nutrient++) {
                    if (random.nextInt(3) != 0) {
                        hold(stuff);
                    }
                }
            }
            for (int step = 0; step < 9; step++) {
                change();
                if (random.nextInt(3) == 0) {
                    change();
                }
                int w = random.nextInt(3) == 0 ? pick(10, 20, 40, 1, 15, 30) : upTo(40);
                int answer = mixes.run(w);
                answersOfRuns[answer + 1]++;
                due("run(" + w + ")", answer, model.run(w));
                if (random.nextInt(3) == 0) {
                    change();
                }
                ask();
            }
        }

        private void addStuff() {
            int price = aPrice();
            int stock = aStock();
            due("stuff(" + price + "," + stock + ")", mixes.stuff(price, stock), model.stuff(price, stock));
        }

        private void hold(int stuff) {
            int nutrient = upTo(2);
            int points = upTo(40);
            due("holds(" + stuff + "," + nutrient + "," + points + ")", number(mixes.holds(stuff, nutrient, points)),
                    number(model.holds(stuff, nutrient, points)));
        }

        private void change() {
            int stuff = upTo(3);
            switch (random.nextInt(manySilos ? 12 : 9)) {
                case 0 -> {
                    int price = aPrice();
                    due("price(" + stuff + "," + price + ")", mixes.price(stuff, price), model.price(stuff, price));
                }
                case 1 -> {
                    int stock = aStock();
                    due("stock(" + stuff + "," + stock + ")", mixes.stock(stuff, stock), model.stock(stuff, stock));
                }
                case 2 -> hold(stuff);
                case 3, 4, 5 -> changeNeed();
                case 6, 7 -> changeShares(stuff);
                case 8 -> addStuff();
                default -> changeSilo(stuff);
            }
        }

        private void changeNeed() {
            int nutrient = upTo(2);
            int least = pick(0, 5 + upTo(10), upTo(20), upTo(30));
            int most = random.nextInt(8) == 0 ? least : pick(40, least + upTo(6), least + 5 + upTo(15), upTo(40));
            due("need(" + nutrient + "," + least + "," + most + ")", number(mixes.need(nutrient, least, most)),
                    number(model.need(nutrient, least, most)));
        }

        private void changeShares(int stuff) {
            int least = pick(0, 0, 1, 2, 3, upTo(10));
            int most = pick(10, 10, least + 1, least + 3, 6, upTo(10));
            due("shares(" + stuff + "," + least + "," + most + ")", number(mixes.shares(stuff, least, most)),
                    number(model.shares(stuff, least, most)));
        }

        private void changeSilo(int stuff) {
            int size = pick(0, 5, 6, 7, 5 + random.nextInt(10), upTo(40));
            due("silo(" + stuff + "," + size + ")", number(mixes.silo(stuff, size)), number(model.silo(stuff, size)));
        }

        private void ask() {
            for (int part = -1; part <= 2; part++) {
                for (int stuff = -1; stuff <= 4; stuff++) {
                    due("amount(" + stuff + "," + part + ")", mixes.amount(stuff, part), model.amount(stuff, part));
                }
                due("cost(" + part + ")", mixes.cost(part), model.cost(part));
            }
            due("tight()", mixes.tight(), model.tight());
            for (int k = -1; k <= 5; k++) {
                due("clash(" + k + ")", mixes.clash(k), model.clash(k));
            }
            clashesOfThreeOrMore += mixes.clash(2) >= 0 ? 1 : 0;
            int nutrient = upTo(2);
            for (int part = 0; part <= 1; part++) {
                long more = mixes.dearer(nutrient, part);
                due("dearer(" + nutrient + "," + part + ")", more, model.dearer(nutrient, part));
                dearerTold += more > 0 ? 1 : 0;
            }
            int medicine = upTo(3);
            due("line(" + medicine + ")", mixes.line(medicine), model.line(medicine));
            if (random.nextInt(3) == 0) {
                due("clean()", mixes.clean(), model.clean());
            }
            due("made()", mixes.made(), model.made());
        }

        private static long number(boolean answer) {
            return answer ? 1 : 0;
        }
    }

    /** The document, word by word. */
    private static final class Model {
        private record Stuff(int[] price, int[] stock, int[] points, int[] shares, int[] silo) { }

        private record Run(int w, int answer, int stuffs, Fraction[] mix, Fraction cost, int tight,
                List<Integer> clash) { }

        private final List<Stuff> stuffs = new ArrayList<>();
        private final int[][] needs = {{0, 40}, {0, 40}, {0, 40}};
        private Run last = null;
        private int medicine = 0;
        private int made = 0;

        int stuff(int price, int stock) {
            if (stuffs.size() == 4 || no(price, 1000) || no(stock, 40)) {
                return -1;
            }
            stuffs.add(new Stuff(new int[] {price}, new int[] {stock}, new int[3], new int[] {0, 10}, new int[1]));
            return stuffs.size() - 1;
        }

        int price(int stuff, int price) {
            if (no(stuff, stuffs.size() - 1) || no(price, 1000)) {
                return -1;
            }
            int was = stuffs.get(stuff).price[0];
            stuffs.get(stuff).price[0] = price;
            return was;
        }

        int stock(int stuff, int stock) {
            if (no(stuff, stuffs.size() - 1) || no(stock, 40)) {
                return -1;
            }
            int was = stuffs.get(stuff).stock[0];
            stuffs.get(stuff).stock[0] = stock;
            return was;
        }

        boolean holds(int stuff, int nutrient, int points) {
            if (no(stuff, stuffs.size() - 1) || no(nutrient, 2) || no(points, 40)) {
                return false;
            }
            stuffs.get(stuff).points[nutrient] = points;
            return true;
        }

        boolean need(int nutrient, int least, int most) {
            if (no(nutrient, 2) || no(least, 40) || no(most, 40) || least > most) {
                return false;
            }
            needs[nutrient][0] = least;
            needs[nutrient][1] = most;
            return true;
        }

        boolean shares(int stuff, int least, int most) {
            if (no(stuff, stuffs.size() - 1) || no(least, 10) || no(most, 10) || least > most) {
                return false;
            }
            stuffs.get(stuff).shares[0] = least;
            stuffs.get(stuff).shares[1] = most;
            return true;
        }

        boolean silo(int stuff, int size) {
            if (no(stuff, stuffs.size() - 1) || size != 0 && (size < 5 || size > 40)) {
                return false;
            }
            stuffs.get(stuff).silo[0] = size;
            return true;
        }

        int run(int w) {
            if (w < 1 || w > 40 || stuffs.isEmpty()) {
                return -1;
            }
            List<Row> bounds = bounds(w);
            Fraction[] mix = best(w);
            if (mix != null) {
                int tight = 0;
                for (int bound = 0; bound < 18; bound++) {
                    Row row = bounds.get(bound);
                    if (row != null && row.valueAt(mix).minus(Fraction.of(row.right)).sign() == 0) {
                        tight += 1 << bound;
                    }
                }
                last = new Run(w, 0, stuffs.size(), mix, price(mix), tight, List.of());
            } else if (isKept(w, bounds)) {
                last = new Run(w, 2, stuffs.size(), null, null, -1, List.of());
            } else {
                last = new Run(w, 1, stuffs.size(), null, null, -1, clashing(w, bounds));
            }
            return last.answer;
        }

        private List<Integer> clashing(int w, List<Row> bounds) {
            List<Row> left = new ArrayList<>(bounds);
            List<Integer> clash = new ArrayList<>();
            for (int bound = 0; bound < 18; bound++) {
                Row row = left.set(bound, null);
                if (row != null && isKept(w, left)) {
                    left.set(bound, row);
                    clash.add(bound);
                }
            }
            return clash;
        }

        private boolean isKept(int w, List<Row> bounds) {
            List<Row> rows = new ArrayList<>(bounds);
            rows.add(weight(w));
            return new Simplex(stuffs.size(), rows).lexicographicLeast(List.of()) != null;
        }

        private Row weight(int w) {
            long[] ones = new long[stuffs.size()];
            java.util.Arrays.fill(ones, 1);
            return new Row(ones, 0, w);
        }

        private List<Row> bounds(int w) {
            Row[] bounds = new Row[18];
            for (int stuff = 0; stuff < stuffs.size(); stuff++) {
                Stuff s = stuffs.get(stuff);
                bounds[stuff] = new Row(one(stuff, 1), -1, s.stock[0]);
                bounds[4 + stuff] = new Row(one(stuff, 10), 1, (long) s.shares[0] * w);
                bounds[8 + stuff] = new Row(one(stuff, 10), -1, (long) s.shares[1] * w);
            }
            for (int nutrient = 0; nutrient < 3; nutrient++) {
                long[] points = new long[stuffs.size()];
                for (int stuff = 0; stuff < points.length; stuff++) {
                    points[stuff] = stuffs.get(stuff).points[nutrient];
                }
                bounds[12 + nutrient] = new Row(points, 1, (long) w * needs[nutrient][0]);
                bounds[15 + nutrient] = new Row(points, -1, (long) w * needs[nutrient][1]);
            }
            return new ArrayList<>(java.util.Arrays.asList(bounds));
        }

        private long[] one(int stuff, long factor) {
            long[] row = new long[stuffs.size()];
            row[stuff] = factor;
            return row;
        }

        private Fraction[] best(int w) {
            List<Row> rows = bounds(w);
            rows.add(weight(w));
            return best(w, 0, rows);
        }

        private Fraction[] best(int left, int stuff, List<Row> rows) {
            if (stuff == stuffs.size()) {
                return new Simplex(stuffs.size(), rows).lexicographicLeast(goals());
            }
            int size = stuffs.get(stuff).silo[0];
            if (size == 0) {
                return best(left, stuff + 1, rows);
            }
            Fraction[] best = null;
            for (int much = 0; much <= left; much += size) {
                List<Row> more = new ArrayList<>(rows);
                more.add(new Row(one(stuff, 1), 0, much));
                Fraction[] mix = best(left - much, stuff + 1, more);
                if (mix != null && (best == null || isFirst(mix, best))) {
                    best = mix;
                }
            }
            return best;
        }

        private boolean isFirst(Fraction[] mix, Fraction[] other) {
            int order = price(mix).minus(price(other)).sign();
            for (int stuff = 0; stuff < mix.length && order == 0; stuff++) {
                order = mix[stuff].minus(other[stuff]).sign();
            }
            return order < 0;
        }

        private List<long[]> goals() {
            List<long[]> goals = new ArrayList<>();
            goals.add(prices());
            for (int stuff = 0; stuff < stuffs.size(); stuff++) {
                goals.add(one(stuff, 1));
            }
            return goals;
        }

        private long[] prices() {
            long[] prices = new long[stuffs.size()];
            for (int stuff = 0; stuff < prices.length; stuff++) {
                prices[stuff] = stuffs.get(stuff).price[0];
            }
            return prices;
        }

        private Fraction price(Fraction[] mix) {
            return new Row(prices(), 0, 0).valueAt(mix);
        }

        long amount(int stuff, int part) {
            if (last == null || last.answer != 0 || no(stuff, last.stuffs - 1)) {
                return -1;
            }
            return last.mix[stuff].part(part);
        }

        long cost(int part) {
            return last == null || last.answer != 0 ? -1 : last.cost.part(part);
        }

        int tight() {
            return last == null ? -1 : last.tight;
        }

        int clash(int k) {
            return last == null || no(k, last.clash.size() - 1) ? -1 : last.clash.get(k);
        }

        long dearer(int nutrient, int part) {
            if (last == null || no(nutrient, 2) || needs[nutrient][0] == needs[nutrient][1]) {
                return -1;
            }
            Fraction[] now = best(last.w);
            needs[nutrient][0]++;
            Fraction[] then = best(last.w);
            needs[nutrient][0]--;
            return now == null || then == null ? -1 : price(then).minus(price(now)).part(part);
        }

        int line(int with) {
            if (no(with, 3) || last == null || last.answer != 0) {
                return -1;
            }
            if (medicine != 0 && medicine != with) {
                return 1;
            }
            medicine = with;
            made++;
            return 0;
        }

        int clean() {
            int was = medicine;
            medicine = 0;
            return was;
        }

        int made() {
            return made;
        }

        private static boolean no(int number, int most) {
            return number < 0 || number > most;
        }
    }

    /** The sum of left times amounts is at most (sense -1), just (0) or at least (1) what stands right. */
    private record Row(long[] left, int sense, long right) {
        Fraction valueAt(Fraction[] amounts) {
            Fraction sum = Fraction.of(0);
            for (int i = 0; i < left.length; i++) {
                sum = sum.plus(Fraction.of(left[i]).times(amounts[i]));
            }
            return sum;
        }
    }

    /** A fraction in lowest terms; an overflow throws, which fails the test. */
    private record Fraction(long above, long below) {
        static Fraction of(long whole) {
            return new Fraction(whole, 1);
        }

        static Fraction of(long above, long below) {
            long a = Math.abs(above);
            long b = Math.abs(below);
            while (b != 0) {
                long rest = a % b;
                a = b;
                b = rest;
            }
            return below < 0 ? new Fraction(-above / a, -below / a) : new Fraction(above / a, below / a);
        }

        Fraction plus(Fraction other) {
            return of(Math.addExact(Math.multiplyExact(above, other.below), Math.multiplyExact(other.above, below)),
                    Math.multiplyExact(below, other.below));
        }

        Fraction minus(Fraction other) {
            return plus(new Fraction(-other.above, other.below));
        }

        Fraction times(Fraction other) {
            return of(Math.multiplyExact(above, other.above), Math.multiplyExact(below, other.below));
        }

        Fraction over(Fraction other) {
            return of(Math.multiplyExact(above, other.below), Math.multiplyExact(below, other.above));
        }

        int sign() {
            return Long.signum(above);
        }

        long part(int part) {
            return part == 0 ? above : part == 1 ? below : -1;
        }
    }

    /** The simplex method in two phases, with Bland's rule. */
    private static final class Simplex {
        private final int amounts;
        private final int columns;
        private final int artificial;
        private final Fraction[][] table;
        private final int[] basis;
        private final boolean[] mayEnter;

        Simplex(int amounts, List<Row> given) {
            List<Row> rows = new ArrayList<>();
            for (Row row : given) {
                if (row != null) {
                    rows.add(row);
                }
            }
            this.amounts = amounts;
            this.artificial = amounts + rows.size();
            this.columns = artificial + rows.size();
            this.table = new Fraction[rows.size()][columns + 1];
            this.basis = new int[rows.size()];
            this.mayEnter = new boolean[columns];
            java.util.Arrays.fill(mayEnter, true);
            for (int i = 0; i < rows.size(); i++) {
                fill(i, rows.get(i));
            }
        }

        // No right side is below 0, so the artificial columns are a first basis.
        private void fill(int i, Row row) {
            java.util.Arrays.fill(table[i], Fraction.of(0));
            for (int j = 0; j < amounts; j++) {
                table[i][j] = Fraction.of(row.left[j]);
            }
            table[i][amounts + i] = Fraction.of(-row.sense);
            table[i][artificial + i] = Fraction.of(1);
            table[i][columns] = Fraction.of(row.right);
            basis[i] = artificial + i;
        }

        Fraction[] lexicographicLeast(List<long[]> goals) {
            long[] sumOfArtificials = new long[columns];
            java.util.Arrays.fill(sumOfArtificials, artificial, columns, 1);
            minimise(sumOfArtificials);
            for (int i = 0; i < basis.length; i++) {
                if (basis[i] >= artificial && table[i][columns].sign() > 0) {
                    return null;
                }
            }
            leaveArtificials();
            for (long[] goal : goals) {
                long[] costs = java.util.Arrays.copyOf(goal, columns);
                minimise(costs);
                for (int j = 0; j < columns; j++) {
                    mayEnter[j] &= reduced(costs, j).sign() == 0;
                }
            }
            Fraction[] found = new Fraction[amounts];
            java.util.Arrays.fill(found, Fraction.of(0));
            for (int i = 0; i < basis.length; i++) {
                if (basis[i] < amounts) {
                    found[basis[i]] = table[i][columns];
                }
            }
            return found;
        }

        private void leaveArtificials() {
            for (int j = artificial; j < columns; j++) {
                mayEnter[j] = false;
            }
            for (int i = 0; i < basis.length; i++) {
                for (int j = 0; j < artificial && basis[i] >= artificial; j++) {
                    if (table[i][j].sign() != 0) {
                        pivot(i, j);
                    }
                }
            }
        }

        private Fraction reduced(long[] costs, int j) {
            Fraction cost = Fraction.of(costs[j]);
            for (int i = 0; i < basis.length; i++) {
                if (costs[basis[i]] != 0 && table[i][j].sign() != 0) {
                    cost = cost.minus(Fraction.of(costs[basis[i]]).times(table[i][j]));
                }
            }
            return cost;
        }

        private void minimise(long[] costs) {
            while (true) {
                int enter = 0;
                while (enter < columns && !(mayEnter[enter] && reduced(costs, enter).sign() < 0)) {
                    enter++;
                }
                if (enter == columns) {
                    return;
                }
                int leave = -1;
                for (int i = 0; i < basis.length; i++) {
                    if (table[i][enter].sign() > 0 && (leave < 0 || isTighter(i, leave, enter))) {
                        leave = i;
                    }
                }
                pivot(leave, enter);
            }
        }

        private boolean isTighter(int i, int other, int enter) {
            int order = table[i][columns].over(table[i][enter]).minus(table[other][columns].over(table[other][enter]))
                    .sign();
            return order < 0 || order == 0 && basis[i] < basis[other];
        }

        private void pivot(int row, int column) {
            Fraction by = table[row][column];
            for (int j = 0; j <= columns; j++) {
                if (table[row][j].sign() != 0) {
                    table[row][j] = table[row][j].over(by);
                }
            }
            for (int i = 0; i < basis.length; i++) {
                Fraction factor = table[i][column];
                if (i != row && factor.sign() != 0) {
                    for (int j = 0; j <= columns; j++) {
                        if (table[row][j].sign() != 0) {
                            table[i][j] = table[i][j].minus(factor.times(table[row][j]));
                        }
                    }
                }
            }
            basis[row] = column;
        }
    }
}
