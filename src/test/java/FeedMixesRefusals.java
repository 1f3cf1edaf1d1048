import java.util.LinkedHashMap;
import java.util.List;
import java.util.Map;

/**
 * Every call, on objects of every kind (empty, full, with a mix, with a clash, ..), with the last numbers that it takes
 * and the first that it refuses: what it answers, and what it has changed of all that the object knows. What that is,
 * is read by calls of the face, each thing on an object of its own, as reading it spoils the others.
 */
public final class FeedMixesRefusals {
    private static final int LOW = Integer.MIN_VALUE;
    private static final int HIGH = Integer.MAX_VALUE;
    private static final int NONE = -1;

    private static int wrong = 0;
    private static int cases = 0;

    /** Calls that bring a new object into a state. */
    private interface Story {
        void tell(FeedMixes x);
    }

    private interface Call {
        long on(FeedMixes x);
    }

    private record Scene(String name, int stuffs, Story story, Map<String, Long> state) {
        private FeedMixes begin() {
            FeedMixes x = new FeedMixes();
            story.tell(x);
            return x;
        }

        private long known(String thing) {
            return state.getOrDefault(thing, (long) NONE);
        }
    }

    public static void main(String[] args) {
        newObject();
        List<Scene> scenes = List.of(
                scene("empty", 0, x -> { }),
                scene("empty, needs told", 0, FeedMixesRefusals::needsOfTheFull),
                scene("one stuff", 1, x -> x.stuff(0, 40)),
                scene("full, no run", 4, FeedMixesRefusals::full),
                scene("one stuff, a mix", 1, FeedMixesRefusals::oneWithMix),
                scene("two stuffs, a mix, a medicine on the line", 2, FeedMixesRefusals::twoWithMedicine),
                scene("full, a mix", 4, FeedMixesRefusals::fullWithMix),
                scene("three stuffs, a clash after a mix", 3, FeedMixesRefusals::threeWithClash),
                scene("full, no good mix", 4, FeedMixesRefusals::fullNotGood));
        for (Scene each : scenes) {
            stuff(each);
            prices(each);
            stocks(each);
            points(each);
            needs(each);
            shares(each);
            silos(each);
            runs(each);
            questions(each);
            line(each);
            clean(each);
        }
        lineByLine();
        System.out.println(cases + " calls; " + (wrong == 0 ? "all is as due" : wrong + " things are not as due"));
        if (wrong != 0) {
            System.exit(1);
        }
    }

    // ---- the scenes ----

    private static Scene scene(String name, int stuffs, Story story) {
        Scene bare = new Scene(name, stuffs, story, Map.of());
        return new Scene(name, stuffs, story, stateAfter(bare, x -> 0));
    }

    private static void needsOfTheFull(FeedMixes x) {
        x.need(0, 5, 30);
        x.need(1, 4, 36);
        x.need(2, 7, 33);
    }

    private static void full(FeedMixes x) {
        needsOfTheFull(x);
        int[][] told = {{10, 30, 1, 8, 0}, {200, 25, 0, 9, 6}, {35, 20, 2, 7, 0}, {999, 39, 1, 6, 5}};
        for (int stuff = 0; stuff < 4; stuff++) {
            x.stuff(told[stuff][0], told[stuff][1]);
            x.shares(stuff, told[stuff][2], told[stuff][3]);
            x.silo(stuff, told[stuff][4]);
            for (int nutrient = 0; nutrient < 3; nutrient++) {
                x.holds(stuff, nutrient, 3 + 7 * stuff + 6 * nutrient);
            }
        }
    }

    private static void oneWithMix(FeedMixes x) {
        x.stuff(1000, 40);
        x.holds(0, 2, 40);
        due("one stuff: run(40)", x.run(40), 0);
    }

    private static void twoWithMedicine(FeedMixes x) {
        x.stuff(1, 12);
        x.stuff(2, 40);
        x.holds(0, 0, 10);
        x.holds(1, 0, 13);
        x.need(0, 11, 12);
        due("two stuffs: run(1)", x.run(1), 0);
        due("two stuffs: line(0)", x.line(0), 0);
        due("two stuffs: line(2)", x.line(2), 0);
    }

    private static void fullWithMix(FeedMixes x) {
        full(x);
        due("full: run(20)", x.run(20), 0);
    }

    private static void threeWithClash(FeedMixes x) {
        x.stuff(3, 7);
        x.stuff(4, 6);
        x.stuff(5, 5);
        due("three stuffs: run(18)", x.run(18), 0);
        due("three stuffs: line(1)", x.line(1), 0);
        due("three stuffs: run(19)", x.run(19), 1);
    }

    private static void fullNotGood(FeedMixes x) {
        full(x);
        x.silo(0, 40);
        due("full, a silo that is too large: run(20)", x.run(20), 2);
    }

    // ---- what is due ----

    private static void due(String what, Object got, Object want) {
        if (((Number) got).longValue() != ((Number) want).longValue()) {
            wrong++;
            System.out.println(what + " is " + got + ", due is " + want);
        }
    }

    private static void refused(Scene scene, String name, Call call) {
        due(scene, name, call, NONE, Map.of());
    }

    private static void refusedAsFalse(Scene scene, String name, Call call) {
        due(scene, name, call, 0, Map.of());
    }

    private static void due(Scene scene, String name, Call call, long answer, Map<String, Long> changes) {
        cases++;
        String where = scene.name + ": " + name;
        due(where, call.on(scene.begin()), answer);
        Map<String, Long> want = new LinkedHashMap<>(scene.state);
        want.putAll(changes);
        same(where, stateAfter(scene, call), want);
    }

    private static void same(String where, Map<String, Long> got, Map<String, Long> want) {
        due(where + ": the number of things known", got.size(), want.size());
        for (Map.Entry<String, Long> each : want.entrySet()) {
            due(where + ": then " + each.getKey(), got.getOrDefault(each.getKey(), -99L), each.getValue());
        }
    }

    private static long number(boolean answer) {
        return answer ? 1 : 0;
    }

    // ---- all that an object knows ----

    private static Map<String, Long> stateAfter(Scene scene, Call call) {
        Story all = x -> {
            scene.story.tell(x);
            call.on(x);
        };
        Scene after = new Scene(scene.name, 0, all, Map.of());
        Map<String, Long> state = new LinkedHashMap<>();
        int next = after.begin().stuff(1, 1);
        int stuffs = next == NONE ? 4 : next;
        state.put("stuffs", (long) stuffs);
        for (int stuff = 0; stuff < stuffs; stuff++) {
            readStuff(after, stuff, state);
        }
        for (int nutrient = 0; nutrient < 3; nutrient++) {
            state.put("least need " + nutrient, readNeed(after.begin(), nutrient, 0, 1000));
            state.put("most need " + nutrient, readNeed(after.begin(), nutrient, 1000, 0));
        }
        readLastRun(after, state);
        readLine(after, state);
        return state;
    }

    private static void readStuff(Scene scene, int stuff, Map<String, Long> state) {
        state.put("price " + stuff, (long) scene.begin().price(stuff, 0));
        state.put("stock " + stuff, (long) scene.begin().stock(stuff, 0));
        state.put("least share " + stuff, readShare(scene.begin(), stuff, 1000));
        state.put("most share " + stuff, readShare(scene.begin(), stuff, 0));
        state.put("silo " + stuff, readSilo(scene.begin(), stuff));
        for (int nutrient = 0; nutrient < 3; nutrient++) {
            state.put("points " + stuff + " " + nutrient, readPoints(scene.begin(), stuff, nutrient));
        }
    }

    private static void openNeeds(FeedMixes x) {
        for (int nutrient = 0; nutrient < 3; nutrient++) {
            x.need(nutrient, 0, 40);
        }
    }

    /** Two stuffs or more, without a bound or a silo, but for the one that is to be read. */
    private static void openStuffs(FeedMixes x, int sharesKept, int siloKept) {
        for (int stuff = 0; stuff < 4; stuff++) {
            if (x.stock(stuff, 40) == NONE && stuff < 2) {
                x.stuff(500, 40);
            }
            if (stuff != sharesKept) {
                x.shares(stuff, 0, 10);
            }
            if (stuff != siloKept) {
                x.silo(stuff, 0);
            }
        }
    }

    private static void onlyOf(FeedMixes x, int one, int other) {
        for (int stuff = 0; stuff < 4; stuff++) {
            if (stuff != one && stuff != other) {
                x.shares(stuff, 0, 0);
            }
        }
    }

    private static void priceApart(FeedMixes x, int stuff, int price) {
        for (int other = 0; other < 4; other++) {
            x.price(other, other == stuff ? price : 500);
        }
    }

    private static long readShare(FeedMixes x, int stuff, int price) {
        openNeeds(x);
        openStuffs(x, stuff, NONE);
        priceApart(x, stuff, price);
        x.run(10);
        return x.amount(stuff, 0);
    }

    private static long readSilo(FeedMixes x, int stuff) {
        openNeeds(x);
        openStuffs(x, NONE, stuff);
        priceApart(x, stuff, 0);
        for (int w = 1; w <= 40; w++) {
            x.run(w);
            if (x.amount(stuff, 0) > 0) {
                return w == 1 ? 0 : w;
            }
        }
        return NONE;
    }

    /** The most that can be needed of a mix of this stuff alone. */
    private static long readPoints(FeedMixes x, int stuff, int nutrient) {
        openNeeds(x);
        openStuffs(x, NONE, NONE);
        onlyOf(x, stuff, stuff);
        int kept = NONE;
        int missed = 41;
        while (missed - kept > 1) {
            int middle = (kept + missed) / 2;
            x.need(nutrient, middle, 40);
            if (x.run(1) == 0) {
                kept = middle;
            } else {
                missed = middle;
            }
        }
        return kept;
    }

    /** Of 40 kilograms, as many are of a stuff of 40 points as the need has points. */
    private static long readNeed(FeedMixes x, int nutrient, int priceOfNone, int priceOfMuch) {
        for (int other = 0; other < 3; other++) {
            if (other != nutrient) {
                x.need(other, 0, 40);
            }
        }
        noneAndMuch(x, nutrient, priceOfNone, priceOfMuch);
        x.run(40);
        return x.amount(1, 0);
    }

    private static void noneAndMuch(FeedMixes x, int nutrient, int priceOfNone, int priceOfMuch) {
        openStuffs(x, NONE, NONE);
        onlyOf(x, 0, 1);
        x.holds(0, nutrient, 0);
        x.holds(1, nutrient, 40);
        x.price(0, priceOfNone);
        x.price(1, priceOfMuch);
    }

    private static void readLastRun(Scene scene, Map<String, Long> state) {
        FeedMixes x = scene.begin();
        for (int part = 0; part < 2; part++) {
            for (int stuff = 0; stuff < 4; stuff++) {
                state.put("last amount " + stuff + " " + part, x.amount(stuff, part));
            }
            state.put("last cost " + part, x.cost(part));
        }
        state.put("last tight", (long) x.tight());
        for (int k = 0; k < 18; k++) {
            state.put("last clash " + k, (long) x.clash(k));
        }
        // Of each kilogram a fortieth becomes 1000 dearer.
        openNeeds(x);
        noneAndMuch(x, 0, 0, 1000);
        state.put("last weight", x.dearer(0, 0) == NONE ? NONE : x.dearer(0, 0) / 25);
    }

    private static void readLine(Scene scene, Map<String, Long> state) {
        for (int medicine = 0; medicine <= 3; medicine++) {
            state.put("line " + medicine, (long) scene.begin().line(medicine));
        }
        state.put("on the line", (long) scene.begin().clean());
        state.put("made", (long) scene.begin().made());
    }

    // ---- promise 1 ----

    private static void newObject() {
        Map<String, Long> want = new LinkedHashMap<>();
        want.put("stuffs", 0L);
        for (int nutrient = 0; nutrient < 3; nutrient++) {
            want.put("least need " + nutrient, 0L);
            want.put("most need " + nutrient, 40L);
        }
        for (int part = 0; part < 2; part++) {
            for (int stuff = 0; stuff < 4; stuff++) {
                want.put("last amount " + stuff + " " + part, -1L);
            }
            want.put("last cost " + part, -1L);
        }
        want.put("last tight", -1L);
        for (int k = 0; k < 18; k++) {
            want.put("last clash " + k, -1L);
        }
        want.put("last weight", -1L);
        for (int medicine = 0; medicine <= 3; medicine++) {
            want.put("line " + medicine, -1L);
        }
        want.put("on the line", 0L);
        want.put("made", 0L);
        same("a new object", stateAfter(new Scene("new", 0, x -> { }, Map.of()), x -> 0), want);
    }

    // ---- promises 2 to 8 ----

    private static void stuff(Scene scene) {
        int[][] notSuch = {{-1, 0}, {1001, 0}, {0, -1}, {0, 41}, {-1, -1}, {1001, 41}, {LOW, 40}, {HIGH, 40},
            {1000, LOW}, {1000, HIGH}};
        for (int[] each : notSuch) {
            refused(scene, "stuff(" + each[0] + ", " + each[1] + ")", x -> x.stuff(each[0], each[1]));
        }
        int[][] such = {{0, 0}, {1000, 40}, {0, 40}, {1000, 0}, {1, 39}, {999, 1}};
        for (int[] each : such) {
            String name = "stuff(" + each[0] + ", " + each[1] + ")";
            if (scene.stuffs == 4) {
                refused(scene, name + " with 4", x -> x.stuff(each[0], each[1]));
            } else {
                due(scene, name, x -> x.stuff(each[0], each[1]), scene.stuffs,
                        asAtFirst(scene.stuffs, each[0], each[1]));
            }
        }
    }

    private static Map<String, Long> asAtFirst(int stuff, long price, long stock) {
        Map<String, Long> news = new LinkedHashMap<>();
        news.put("stuffs", stuff + 1L);
        news.put("price " + stuff, price);
        news.put("stock " + stuff, stock);
        news.put("least share " + stuff, 0L);
        news.put("most share " + stuff, 10L);
        news.put("silo " + stuff, 0L);
        for (int nutrient = 0; nutrient < 3; nutrient++) {
            news.put("points " + stuff + " " + nutrient, 0L);
        }
        return news;
    }

    private static int[] noStuffsOf(Scene scene) {
        return new int[] {-1, scene.stuffs, 4, HIGH, LOW};
    }

    private static void prices(Scene scene) {
        for (int stuff : noStuffsOf(scene)) {
            refused(scene, "price(" + stuff + ", 5)", x -> x.price(stuff, 5));
        }
        for (int stuff = 0; stuff < scene.stuffs; stuff++) {
            int of = stuff;
            for (int price : new int[] {-1, 1001, LOW, HIGH}) {
                refused(scene, "price(" + of + ", " + price + ")", x -> x.price(of, price));
            }
            for (int price : new int[] {0, 1, 999, 1000}) {
                due(scene, "price(" + of + ", " + price + ")", x -> x.price(of, price), scene.known("price " + of),
                        Map.of("price " + of, (long) price));
            }
        }
    }

    private static void stocks(Scene scene) {
        for (int stuff : noStuffsOf(scene)) {
            refused(scene, "stock(" + stuff + ", 5)", x -> x.stock(stuff, 5));
        }
        for (int stuff = 0; stuff < scene.stuffs; stuff++) {
            int of = stuff;
            for (int stock : new int[] {-1, 41, LOW, HIGH}) {
                refused(scene, "stock(" + of + ", " + stock + ")", x -> x.stock(of, stock));
            }
            for (int stock : new int[] {0, 1, 39, 40}) {
                due(scene, "stock(" + of + ", " + stock + ")", x -> x.stock(of, stock), scene.known("stock " + of),
                        Map.of("stock " + of, (long) stock));
            }
        }
    }

    private static void points(Scene scene) {
        for (int stuff : noStuffsOf(scene)) {
            refusedAsFalse(scene, "holds(" + stuff + ", 0, 5)", x -> number(x.holds(stuff, 0, 5)));
        }
        for (int stuff = 0; stuff < scene.stuffs; stuff++) {
            int of = stuff;
            for (int nutrient : new int[] {-1, 3, LOW, HIGH}) {
                refusedAsFalse(scene, "holds(" + of + ", " + nutrient + ", 5)",
                        x -> number(x.holds(of, nutrient, 5)));
            }
            for (int nutrient = 0; nutrient < 3; nutrient++) {
                pointsOf(scene, of, nutrient);
            }
        }
    }

    private static void pointsOf(Scene scene, int of, int nutrient) {
        for (int points : new int[] {-1, 41, LOW, HIGH}) {
            refusedAsFalse(scene, "holds(" + of + ", " + nutrient + ", " + points + ")",
                    x -> number(x.holds(of, nutrient, points)));
        }
        for (int points : new int[] {0, 1, 39, 40}) {
            due(scene, "holds(" + of + ", " + nutrient + ", " + points + ")",
                    x -> number(x.holds(of, nutrient, points)), 1,
                    Map.of("points " + of + " " + nutrient, (long) points));
        }
    }

    private static void needs(Scene scene) {
        for (int nutrient : new int[] {-1, 3, LOW, HIGH}) {
            refusedAsFalse(scene, "need(" + nutrient + ", 1, 2)", x -> number(x.need(nutrient, 1, 2)));
        }
        int[][] notSuch = {{-1, 20}, {-1, -1}, {20, 41}, {41, 41}, {1, 0}, {21, 20}, {40, 39}, {40, 0}, {41, 40},
            {LOW, 20}, {20, HIGH}, {HIGH, LOW}, {LOW, HIGH}};
        int[][] such = {{0, 0}, {0, 40}, {40, 40}, {0, 1}, {39, 40}, {1, 39}, {20, 20}, {20, 21}};
        for (int nutrient = 0; nutrient < 3; nutrient++) {
            int of = nutrient;
            for (int[] each : notSuch) {
                refusedAsFalse(scene, "need(" + of + ", " + each[0] + ", " + each[1] + ")",
                        x -> number(x.need(of, each[0], each[1])));
            }
            for (int[] each : such) {
                due(scene, "need(" + of + ", " + each[0] + ", " + each[1] + ")",
                        x -> number(x.need(of, each[0], each[1])), 1,
                        Map.of("least need " + of, (long) each[0], "most need " + of, (long) each[1]));
            }
        }
    }

    private static void shares(Scene scene) {
        for (int stuff : noStuffsOf(scene)) {
            refusedAsFalse(scene, "shares(" + stuff + ", 1, 2)", x -> number(x.shares(stuff, 1, 2)));
        }
        int[][] notSuch = {{-1, 5}, {-1, -1}, {5, 11}, {11, 11}, {1, 0}, {6, 5}, {10, 9}, {10, 0}, {11, 10}, {LOW, 5},
            {5, HIGH}, {HIGH, LOW}, {LOW, HIGH}};
        int[][] such = {{0, 0}, {0, 10}, {10, 10}, {0, 1}, {9, 10}, {1, 9}, {5, 5}, {5, 6}};
        for (int stuff = 0; stuff < scene.stuffs; stuff++) {
            int of = stuff;
            for (int[] each : notSuch) {
                refusedAsFalse(scene, "shares(" + of + ", " + each[0] + ", " + each[1] + ")",
                        x -> number(x.shares(of, each[0], each[1])));
            }
            for (int[] each : such) {
                due(scene, "shares(" + of + ", " + each[0] + ", " + each[1] + ")",
                        x -> number(x.shares(of, each[0], each[1])), 1,
                        Map.of("least share " + of, (long) each[0], "most share " + of, (long) each[1]));
            }
        }
    }

    private static void silos(Scene scene) {
        for (int stuff : noStuffsOf(scene)) {
            for (int size : new int[] {0, 5}) {
                refusedAsFalse(scene, "silo(" + stuff + ", " + size + ")", x -> number(x.silo(stuff, size)));
            }
        }
        for (int stuff = 0; stuff < scene.stuffs; stuff++) {
            int of = stuff;
            for (int size : new int[] {-1, 1, 2, 3, 4, 41, -5, -40, LOW, HIGH}) {
                refusedAsFalse(scene, "silo(" + of + ", " + size + ")", x -> number(x.silo(of, size)));
            }
            for (int size : new int[] {0, 5, 6, 39, 40}) {
                due(scene, "silo(" + of + ", " + size + ")", x -> number(x.silo(of, size)), 1,
                        Map.of("silo " + of, (long) size));
            }
        }
    }

    // ---- promises 9 to 17 ----

    private static void runs(Scene scene) {
        for (int w : new int[] {0, 41, -1, LOW, HIGH}) {
            refused(scene, "run(" + w + ")", x -> x.run(w));
        }
        for (int w : new int[] {1, 2, 20, 39, 40}) {
            if (scene.stuffs == 0) {
                refused(scene, "run(" + w + ") without stuffs", x -> x.run(w));
            } else {
                aRun(scene, w);
            }
        }
    }

    /** A run changes what is told of the last one, and nothing else. */
    private static void aRun(Scene scene, int w) {
        cases++;
        Map<String, Long> after = stateAfter(scene, x -> x.run(w));
        String where = scene.name + ": run(" + w + ")";
        due(where + ": then last weight", after.get("last weight"), w);
        boolean isMade = scene.begin().run(w) == 0;
        for (Map.Entry<String, Long> each : scene.state.entrySet()) {
            String thing = each.getKey();
            if (thing.startsWith("line ")) {
                boolean mayGo = scene.known("on the line") == 0 || thing.equals("line " + scene.known("on the line"));
                due(where + ": then " + thing, after.get(thing), isMade ? (mayGo ? 0 : 1) : NONE);
            } else if (!thing.startsWith("last ")) {
                due(where + ": then " + thing, after.get(thing), each.getValue());
            }
        }
    }

    /** A question changes nothing, whether it is answered or refused. */
    private static void questions(Scene scene) {
        for (int number : new int[] {-1, 0, 1, 2, 3, 4, 17, 18, LOW, HIGH}) {
            due(scene, "clash(" + number + ")", x -> x.clash(number), scene.known("last clash " + number), Map.of());
            for (int part : new int[] {-1, 0, 1, 2, LOW, HIGH}) {
                due(scene, "amount(" + number + ", " + part + ")", x -> x.amount(number, part),
                        scene.known("last amount " + number + " " + part), Map.of());
            }
        }
        for (int part : new int[] {-1, 0, 1, 2, LOW, HIGH}) {
            due(scene, "cost(" + part + ")", x -> x.cost(part), scene.known("last cost " + part), Map.of());
        }
        due(scene, "tight()", x -> x.tight(), scene.known("last tight"), Map.of());
        due(scene, "made()", x -> x.made(), scene.known("made"), Map.of());
        questionsOfDearer(scene);
    }

    private static void questionsOfDearer(Scene scene) {
        for (int part : new int[] {-1, 2, LOW, HIGH}) {
            for (int nutrient = 0; nutrient < 3; nutrient++) {
                int of = nutrient;
                refused(scene, "dearer(" + of + ", " + part + ")", x -> x.dearer(of, part));
            }
        }
        for (int nutrient : new int[] {-1, 3, LOW, HIGH}) {
            refused(scene, "dearer(" + nutrient + ", 0)", x -> x.dearer(nutrient, 0));
            refused(scene, "dearer(" + nutrient + ", 1)", x -> x.dearer(nutrient, 1));
        }
        for (int nutrient = 0; nutrient < 3; nutrient++) {
            int of = nutrient;
            for (int part = 0; part < 2; part++) {
                int which = part;
                due(scene, "dearer(" + of + ", " + which + ")", x -> x.dearer(of, which),
                        scene.begin().dearer(of, which), Map.of());
                if (scene.known("last weight") == NONE) {
                    due(scene.name + ": dearer(" + of + ", " + which + ")", scene.begin().dearer(of, which), NONE);
                }
            }
        }
    }

    private static void line(Scene scene) {
        for (int medicine : new int[] {-1, 4, LOW, HIGH}) {
            refused(scene, "line(" + medicine + ")", x -> x.line(medicine));
        }
        boolean hasMix = scene.known("last tight") != NONE;
        long on = scene.known("on the line");
        for (int medicine = 0; medicine <= 3; medicine++) {
            int with = medicine;
            String name = "line(" + with + ")";
            if (!hasMix) {
                refused(scene, name + " without a mix", x -> x.line(with));
            } else if (on != 0 && on != with) {
                due(scene, name + " with another on it", x -> x.line(with), 1, Map.of());
            } else {
                due(scene, name, x -> x.line(with), 0, afterLine(with, scene.known("made") + 1));
            }
        }
    }

    private static Map<String, Long> afterLine(int medicine, long made) {
        Map<String, Long> news = new LinkedHashMap<>();
        news.put("made", made);
        news.put("on the line", (long) medicine);
        for (int next = 0; next <= 3; next++) {
            news.put("line " + next, medicine == 0 || medicine == next ? 0L : 1L);
        }
        return news;
    }

    private static void clean(Scene scene) {
        Map<String, Long> news = new LinkedHashMap<>();
        news.put("on the line", 0L);
        for (int next = 0; next <= 3; next++) {
            news.put("line " + next, scene.known("last tight") != NONE ? 0L : NONE);
        }
        due(scene, "clean()", x -> x.clean(), scene.known("on the line"), news);
    }

    /** Every medicine after every other. */
    private static void lineByLine() {
        for (int first = 0; first <= 3; first++) {
            int on = first;
            Scene scene = scene("a mix with " + on + " on the line", 1, x -> {
                x.stuff(1, 40);
                x.run(1);
                x.line(on);
            });
            due(scene.name + ": made", scene.known("made"), 1);
            due(scene.name + ": on the line", scene.known("on the line"), on);
            line(scene);
            clean(scene);
        }
    }
}
