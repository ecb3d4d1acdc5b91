import java.util.LinkedHashMap;
import java.util.Map;

/** The boundary cases of "Exceptions", and the throws clauses that several promises share. */
final class BoundariesOfExceptions extends Boundary {
    private BoundariesOfExceptions() {
    }

    static void all() {
        theConstants();
        thereIsNoSuchSeries();
        thereIsNoSuchTier();
        tierIsNoneOfThese();
        timeIs0OrMore();
        fromAndToAreMultiplesOf60();
        theFirstLineThatAppliesDecides();
        aCallThatThrowsChangesNothing();
    }

    private static void theConstants() {
        T.test("Exceptions", "The constants: GAUGE = 0, COUNTER = 1: Kinds of series.",
                "POINTS = 0, MINUTES = 1, HOURS = 2, DAYS = 3: Tiers.", "ZERO = 0, PREVIOUS = 1, LINEAR = 2: Rules for gaps.");
        T.is("kinds", () -> RollupStore.GAUGE + " " + RollupStore.COUNTER, "0 1");
        T.is("tiers", () -> RollupStore.POINTS + " " + RollupStore.MINUTES + " " + RollupStore.HOURS + " " + RollupStore.DAYS,
                "0 1 2 3");
        T.is("rules", () -> RollupStore.ZERO + " " + RollupStore.PREVIOUS + " " + RollupStore.LINEAR, "0 1 2");
    }

    // ---- no such series

    /** Counters, each with a point of the value 5 at 99000, the clock at 100000. */
    private static Store counters(int many) {
        Store x = new Store();
        for (int series = 0; series < many; series++) {
            x.addSeries(COUNTER);
        }
        x.advance(100000);
        for (int series = 0; series < many; series++) {
            x.put(series, 99000, 5);
        }
        return x;
    }

    /** By its promise, each call that takes a series, as it answers on a store of counters. */
    private static Map<Integer, SeriesCall> callsOfASeries() {
        Map<Integer, SeriesCall> calls = new LinkedHashMap<>();
        calls.put(3, (x, s) -> x.put(s, 99001, 1));
        calls.put(4, (x, s) -> x.putMany(s, 99001, 1, 1, 1, 1));
        calls.put(5, (x, s) -> x.erase(s, 99000));
        calls.put(11, (x, s) -> x.rows(s, POINTS));
        calls.put(12, (x, s) -> x.timeOf(s, POINTS, 0));
        calls.put(13, (x, s) -> x.valueAt(s, 99000));
        calls.put(14, (x, s) -> x.hasRollup(s, MINUTES, 99000));
        calls.put(15, (x, s) -> x.count(s, MINUTES, 99000));
        calls.put(16, (x, s) -> x.sum(s, MINUTES, 99000));
        calls.put(17, (x, s) -> x.average(s, MINUTES, 99000));
        calls.put(18, (x, s) -> x.least(s, MINUTES, 99000));
        calls.put(19, (x, s) -> x.greatest(s, MINUTES, 99000));
        calls.put(20, (x, s) -> x.first(s, MINUTES, 99000));
        calls.put(21, (x, s) -> x.last(s, MINUTES, 99000));
        calls.put(22, (x, s) -> x.filled(s, MINUTES, 99000, PREVIOUS));
        calls.put(25, (x, s) -> x.total(s, 99000, 99060));
        calls.put(26, (x, s) -> x.totalByPoints(s, 99000, 99060));
        calls.put(27, (x, s) -> x.increase(s, 99000, 99060));
        calls.put(28, (x, s) -> x.ratePerHour(s, 99000, 99060));
        calls.put(29, (x, s) -> x.gaps(s, MINUTES, 99000, 99060));
        return calls;
    }

    private static final String[] ANSWERS_OF_A_SERIES = {"", "", "", "false", "1", "5", "", "", "", "", "", "1", "99000", "5",
        "true", "1", "5", "5.0", "5", "5", "5", "5", "5", "", "", "5", "5", "0", "0.0", "0"};

    private static void thereIsNoSuchSeries() {
        T.test("Exceptions", "IndexOutOfBoundsException: there is no such series.");
        for (Map.Entry<Integer, SeriesCall> entry : callsOfASeries().entrySet()) {
            int promise = entry.getKey();
            SeriesCall call = entry.getValue();
            T.test("Promise " + promise, "series: a series", "Throws IndexOutOfBoundsException if there is no such series");
            for (int many = 0; many <= 4; many++) {
                int past = many;
                T.refuses("the one after the last of " + many, counters(many), s -> call.on(s, past), BOUNDS);
                T.refuses("-1 of " + many, counters(many), s -> call.on(s, -1), BOUNDS);
                for (int series = 0; series < many; series++) {
                    int is = series;
                    Store x = counters(many);
                    T.is(series + " of " + many, () -> call.on(x, is), ANSWERS_OF_A_SERIES[promise]);
                }
            }
            T.refuses("the least", counters(4), s -> call.on(s, MIN), BOUNDS);
            T.refuses("the greatest", counters(4), s -> call.on(s, MAX), BOUNDS);
        }
    }

    // ---- no such tier

    private static void thereIsNoSuchTier() {
        Map<Integer, SeriesCall> calls = new LinkedHashMap<>();
        calls.put(7, (x, t) -> x.setRetention(t, 90000));
        calls.put(10, (x, t) -> x.horizon(t));
        calls.put(11, (x, t) -> x.rows(0, t));
        calls.put(12, (x, t) -> x.timeOf(0, t, 0));
        // The answers for POINTS to DAYS on a store of counters.
        Map<Integer, String[]> answers = new LinkedHashMap<>();
        answers.put(7, new String[] {"7200", "86400", "864000", "8640000"});
        answers.put(10, new String[] {"92800", "13600", "0", "0"});
        answers.put(11, new String[] {"1", "1", "1", "1"});
        answers.put(12, new String[] {"99000", "99000", "97200", "86400"});
        for (Map.Entry<Integer, SeriesCall> entry : calls.entrySet()) {
            int promise = entry.getKey();
            SeriesCall call = entry.getValue();
            T.test("Promise " + promise, "tier: POINTS to DAYS", "Throws IllegalArgumentException if there is no such tier");
            Store x = counters(1);
            for (int tier : new int[] {-1, 4, MIN, MAX}) {
                T.refuses("tier " + tier, x, s -> call.on(s, tier), ARGUMENT);
            }
            for (int tier = POINTS; tier <= DAYS; tier++) {
                int t = tier;
                T.is("tier " + t, () -> call.on(x, t), answers.get(promise)[t]);
            }
        }
    }

    /** By its promise, each call that asks the rollup of a tier in which a time is, of series 0. */
    private static Map<Integer, RollupCall> callsOfARollup() {
        Map<Integer, RollupCall> calls = new LinkedHashMap<>();
        calls.put(14, (x, t, at) -> x.hasRollup(0, t, at));
        calls.putAll(callsThatTell());
        calls.put(22, (x, t, at) -> x.filled(0, t, at, PREVIOUS));
        return calls;
    }

    private static void tierIsNoneOfThese() {
        Map<Integer, RollupCall> calls = callsOfARollup();
        calls.put(29, (x, t, at) -> x.gaps(0, t, 86400, 172800));
        String[] gaps = {"", "1439", "23", "0"};
        for (Map.Entry<Integer, RollupCall> entry : calls.entrySet()) {
            int promise = entry.getKey();
            RollupCall call = entry.getValue();
            String clause = promise == 22 ? "Throws IllegalArgumentException if tier or rule is none of these"
                    : "Throws IllegalArgumentException if tier is none of these";
            T.test("Promise " + promise, "tier: MINUTES, HOURS or DAYS", clause);
            Store x = counters(1);
            for (int tier : new int[] {POINTS, -1, 4, MIN, MAX}) {
                T.refuses("tier " + tier, x, s -> call.on(s, tier, 99000), ARGUMENT);
            }
            for (int tier = MINUTES; tier <= DAYS; tier++) {
                int t = tier;
                String due = promise == 29 ? gaps[t] : ANSWERS_OF_A_SERIES[promise];
                T.is("tier " + t, () -> call.on(x, t, 99000), due);
            }
        }
    }

    private static void timeIs0OrMore() {
        for (Map.Entry<Integer, RollupCall> entry : callsOfARollup().entrySet()) {
            int promise = entry.getKey();
            RollupCall call = entry.getValue();
            T.test("Promise " + promise, "time: 0 or more", "or time is below 0");
            Store x = of(0, COUNTER);
            x.put(0, 0, 5);
            for (int tier = MINUTES; tier <= DAYS; tier++) {
                int t = tier;
                T.refuses("-1, tier " + t, x, s -> call.on(s, t, -1), ARGUMENT);
                T.refuses("the least, tier " + t, x, s -> call.on(s, t, MIN), ARGUMENT);
                T.is("0, tier " + t, () -> call.on(x, t, 0), ANSWERS_OF_A_SERIES[promise]);
                String far = promise == 14 ? "false" : promise == 22 ? "5" : STATE;
                T.refuses("the greatest, tier " + t, x, s -> call.on(s, t, MAX), far);
            }
        }
    }

    // ---- windows

    private static void fromAndToAreMultiplesOf60() {
        Map<Integer, WindowCall> calls = new LinkedHashMap<>();
        calls.put(23, (x, from, to) -> x.parts(from, to));
        calls.put(24, (x, from, to) -> x.isKnown(from, to));
        calls.put(25, (x, from, to) -> x.total(0, from, to));
        calls.put(26, (x, from, to) -> x.totalByPoints(0, from, to));
        calls.put(27, (x, from, to) -> x.increase(0, from, to));
        calls.put(28, (x, from, to) -> x.ratePerHour(0, from, to));
        // From 0 to 120, from 60 to 120, from 0 to the latest, from a minute before the latest to it.
        Map<Integer, String[]> answers = new LinkedHashMap<>();
        answers.put(23, new String[] {"2", "1", "24872", "1"});
        answers.put(24, new String[] {"true", "true", "true", "true"});
        answers.put(25, new String[] {"11", "8", "11", "0"});
        answers.put(26, new String[] {"11", "8", "11", "0"});
        answers.put(27, new String[] {"5", "0", "5", "0"});
        answers.put(28, new String[] {"150.0", "0.0", "" + 5.0 * 3600 / LATEST, "0.0"});
        for (Map.Entry<Integer, WindowCall> entry : calls.entrySet()) {
            int promise = entry.getKey();
            WindowCall call = entry.getValue();
            String[] due = answers.get(promise);
            Store x = of(120, COUNTER);
            x.put(0, 0, 3);
            x.put(0, 60, 8);
            T.test("Promise " + promise, "from: a multiple of 60, 0 or more",
                    "Throws IllegalArgumentException if from or to is out of range");
            T.is("0", () -> call.on(x, 0, 120), due[0]);
            T.is("60", () -> call.on(x, 60, 120), due[1]);
            T.is("the greatest", () -> call.on(x, LATEST - 60, LATEST), due[3]);
            for (int from : new int[] {-60, -1, 1, 59, 61, -120, MIN, MIN + 8}) {
                T.refuses("" + from, x, s -> call.on(s, from, 120), ARGUMENT);
            }
            T.refuses("both below 0", x, s -> call.on(s, -120, -60), ARGUMENT);
            String to60 = promise == 28 ? "to: a multiple of 60, more than from" : "to: a multiple of 60, from or more";
            T.test("Promise " + promise, to60, "Throws IllegalArgumentException if from or to is out of range");
            T.is("the greatest", () -> call.on(x, 0, LATEST), due[2]);
            for (int to : new int[] {0, 1, 59, 61, 119, 121, -60, MIN, MAX, MAX - 6}) {
                T.refuses("" + to + " from 60", x, s -> call.on(s, 60, to), ARGUMENT);
            }
            for (int to : new int[] {0, 60, LATEST}) {
                Object same = promise == 28 ? ARGUMENT : promise == 24 ? "true" : "0";
                T.refuses("the same, " + to, x, s -> call.on(s, to, to), same);
            }
        }
    }

    // ---- which line decides

    private static void theFirstLineThatAppliesDecides() {
        T.test("Exceptions", "The first line of a method's throws clause that applies decides",
                "IllegalArgumentException: another argument is out of range.");
        linesOfWriting();
        linesOfPutMany();
        linesOfRows();
        linesOfRollups();
        linesOfWindows();
    }

    private static void linesOfWriting() {
        Store x = of(100000, COUNTER, GAUGE, COUNTER, GAUGE);
        fill(x, 0, 99000, 5);
        T.refuses("addSeries: no kind, 4 series", x, s -> s.addSeries(2), ARGUMENT);
        T.refuses("put: no series, time", x, s -> s.put(4, -1, 1), BOUNDS);
        T.refuses("put: no series, later than the clock", x, s -> s.put(-1, 100001, 1), BOUNDS);
        T.refuses("put: no series, value", x, s -> s.put(4, 99000, 1000001), BOUNDS);
        T.refuses("put: no series, too old", x, s -> s.put(4, 96399, 1), BOUNDS);
        T.refuses("put: no series, time, value", x, s -> s.put(4, -1, 1000001), BOUNDS);
        T.refuses("put: value, too old", x, s -> s.put(0, 96399, -1), ARGUMENT);
        T.refuses("put: value, 100 points", x, s -> s.put(0, 99100, 1000001), ARGUMENT);
        T.refuses("put: below 0 is no time that is too old", x, s -> s.put(0, -1, 1), ARGUMENT);
        T.refuses("put: later than the clock, 100 points", x, s -> s.put(0, 100001, 1), ARGUMENT);
        T.refuses("put: value at a time with a point", x, s -> s.put(0, 99000, -1), ARGUMENT);
        T.refuses("erase: no series, no point", x, s -> s.erase(4, 99999), BOUNDS);
        T.refuses("erase: no series, too old", x, s -> s.erase(-1, 0), BOUNDS);
        T.refuses("setRetention: no tier, seconds", x, s -> s.setRetention(4, 0), ARGUMENT);
    }

    private static void linesOfPutMany() {
        Store x = of(100000, COUNTER, GAUGE);
        fill(x, 0, 99000, 5);
        int[][] wrong = {{-1, 1, 1, 1, 1}, {100001, 1, 1, 1, 1}, {99100, -1, 1, 1, 1}, {99100, 1000001, 1, 1, 1}, {99100, 1, 0, 1, 1},
            {99100, 1, 3601, 1, 1}, {99100, 1, 1, -1001, 1}, {99100, 1, 1, 1001, 1}, {99100, 1, 1, 1, 0}, {99100, 1, 1, 1, 21}};
        for (int[] a : wrong) {
            String what = java.util.Arrays.toString(a);
            T.refuses("putMany: no series, " + what, x, s -> s.putMany(2, a[0], a[1], a[2], a[3], a[4]), BOUNDS);
            T.refuses("putMany: 100 points, " + what, x, s -> s.putMany(0, a[0], a[1], a[2], a[3], a[4]), ARGUMENT);
            if (a[0] == 99100) {
                T.refuses("putMany: too old, " + what, x, s -> s.putMany(0, 96399, a[1], a[2], a[3], a[4]), ARGUMENT);
            }
        }
        T.refuses("putMany: no series, too old", x, s -> s.putMany(2, 96399, 1, 1, 1, 1), BOUNDS);
    }

    private static void linesOfRows() {
        Store x = counters(1);
        T.refuses("rows: no series, no tier", x, s -> s.rows(1, 4), BOUNDS);
        T.refuses("timeOf: no series, no tier", x, s -> s.timeOf(1, 4, 0), BOUNDS);
        T.refuses("timeOf: no series, no place", x, s -> s.timeOf(1, POINTS, 1), BOUNDS);
        T.refuses("timeOf: no tier, no place", x, s -> s.timeOf(0, 4, 1), ARGUMENT);
        T.refuses("timeOf: no tier, a place below 0", x, s -> s.timeOf(0, -1, -1), ARGUMENT);
        T.refuses("timeOf: all", x, s -> s.timeOf(-1, -1, -1), BOUNDS);
        T.refuses("valueAt: no series, no point", x, s -> s.valueAt(1, 99001), BOUNDS);
    }

    private static void linesOfRollups() {
        for (Map.Entry<Integer, RollupCall> entry : callsOfARollup().entrySet()) {
            RollupCall call = entry.getValue();
            String promise = "promise " + entry.getKey();
            Store none = new Store();
            T.refuses(promise + ": no series, no tier", none, s -> call.on(s, POINTS, 0), BOUNDS);
            T.refuses(promise + ": no series, time", none, s -> call.on(s, MINUTES, -1), BOUNDS);
            T.refuses(promise + ": no series, no rollup", none, s -> call.on(s, MINUTES, 0), BOUNDS);
            Store x = of(0, COUNTER);
            T.refuses(promise + ": no tier, no rollup", x, s -> call.on(s, POINTS, 0), ARGUMENT);
            T.refuses(promise + ": time, no rollup", x, s -> call.on(s, DAYS, -1), ARGUMENT);
        }
        Store x = of(0, COUNTER);
        T.refuses("filled: no series, no rule", x, s -> s.filled(1, MINUTES, 0, 3), BOUNDS);
        T.refuses("filled: no rule, no rollup", x, s -> s.filled(0, MINUTES, 0, 3), ARGUMENT);
        T.refuses("filled: no rule, time", x, s -> s.filled(0, MINUTES, -1, -1), ARGUMENT);
        x.put(0, 0, 5);
        T.refuses("filled: no rule where there is a rollup", x, s -> s.filled(0, MINUTES, 0, 3), ARGUMENT);
    }

    private static void linesOfWindows() {
        Store x = at(1000000);
        T.refuses("total: no series, from", x, s -> s.total(2, 1, 60), BOUNDS);
        T.refuses("total: no series, not known", x, s -> s.total(2, 0, 60), BOUNDS);
        T.refuses("total: to, not known", x, s -> s.total(0, 0, 61), ARGUMENT);
        T.refuses("totalByPoints: no series, to", x, s -> s.totalByPoints(-1, 60, 0), BOUNDS);
        T.refuses("totalByPoints: no series, before the horizon", x, s -> s.totalByPoints(2, 0, 60), BOUNDS);
        T.refuses("totalByPoints: from, before the horizon", x, s -> s.totalByPoints(0, 1, 60), ARGUMENT);
        T.refuses("increase: no series, from", x, s -> s.increase(2, -60, 60), BOUNDS);
        T.refuses("increase: no series, not known", x, s -> s.increase(2, 0, 60), BOUNDS);
        T.refuses("increase: from, a gauge", x, s -> s.increase(0, 1000020, 1000021), ARGUMENT);
        T.refuses("increase: to, not known", x, s -> s.increase(1, 60, 0), ARGUMENT);
        T.refuses("increase: a gauge, not known", x, s -> s.increase(0, 0, 60), STATE);
        T.refuses("ratePerHour: no series, nothing", x, s -> s.ratePerHour(2, 60, 60), BOUNDS);
        T.refuses("ratePerHour: no series, not known", x, s -> s.ratePerHour(2, 0, 60), BOUNDS);
        T.refuses("ratePerHour: nothing of a gauge", x, s -> s.ratePerHour(0, 1000020, 1000020), ARGUMENT);
        T.refuses("ratePerHour: nothing of what has expired", x, s -> s.ratePerHour(1, 60, 60), ARGUMENT);
        T.refuses("ratePerHour: to, not known", x, s -> s.ratePerHour(1, 60, 0), ARGUMENT);
        T.refuses("ratePerHour: a gauge, not known", x, s -> s.ratePerHour(0, 0, 60), STATE);
        T.refuses("gaps: no series, no tier", x, s -> s.gaps(2, POINTS, 0, 60), BOUNDS);
        T.refuses("gaps: no series, from", x, s -> s.gaps(2, MINUTES, 1, 60), BOUNDS);
    }

    // ---- and changes nothing

    private static void aCallThatThrowsChangesNothing() {
        T.test("Exceptions", "a call that throws changes nothing.");
        // Rows of every tier, some expired, one series full, a retention shorter and one longer than at first.
        Store x = of(86400, COUNTER, GAUGE, COUNTER, GAUGE);
        x.putMany(0, 84000, 50, 60, -1, 20);
        x.putMany(1, 84000, 50, 70, -9, 20);
        x.setRetention(MINUTES, 9000);
        x.setRetention(HOURS, 1000000);
        x.advance(8000);
        fill(x, 2, 94000, 7);
        x.putMany(0, 92000, 3, 90, 1, 20);
        T.refuses("addSeries", x, s -> s.addSeries(COUNTER), STATE);
        T.refuses("put, too old", x, s -> s.put(0, 90000, 1), STATE);
        T.refuses("put, 100 points", x, s -> s.put(2, 94100, 1), STATE);
        T.refuses("put, a value at a point's time", x, s -> s.put(0, 92000, -1), ARGUMENT);
        T.refuses("putMany, the last of its arguments", x, s -> s.putMany(0, 92000, 9, 90, 1, 21), ARGUMENT);
        T.refuses("putMany, too old", x, s -> s.putMany(0, 90799, 9, 1, 1, 20), STATE);
        T.refuses("putMany, 100 points", x, s -> s.putMany(2, 93999, 9, 1, 1, 20), STATE);
        T.refuses("erase, no point", x, s -> s.erase(0, 92001), STATE);
        T.refuses("erase, expired", x, s -> s.erase(0, 84000), STATE);
        T.refuses("advance", x, s -> s.advance(1000001), ARGUMENT);
        T.refuses("setRetention, shorter than the least", x, s -> s.setRetention(MINUTES, 7199), ARGUMENT);
        T.refuses("setRetention, longer than the longest", x, s -> s.setRetention(DAYS, LONGEST + 1), ARGUMENT);
        T.refuses("timeOf", x, s -> s.timeOf(2, POINTS, 100), STATE);
        T.refuses("valueAt", x, s -> s.valueAt(2, 94100), STATE);
        T.refuses("count", x, s -> s.count(3, DAYS, 94000), STATE);
        T.refuses("filled", x, s -> s.filled(0, MINUTES, 94399, LINEAR), STATE);
        T.refuses("total", x, s -> s.total(0, 84000, 84060), STATE);
        T.refuses("totalByPoints", x, s -> s.totalByPoints(0, 87120, 94380), STATE);
        T.refuses("increase of a gauge", x, s -> s.increase(1, 93600, 94380), STATE);
        T.refuses("ratePerHour of nothing", x, s -> s.ratePerHour(0, 93600, 93600), ARGUMENT);
        T.refuses("gaps", x, s -> s.gaps(0, HOURS, 60, 3600), ARGUMENT);
        T.is("a refused put replaced nothing", () -> x.valueAt(0, 92000), 3);
        T.is("all is as before the refused ones", () -> x.putMany(0, 92000, 3, 90, 1, 20), 20);
    }
}
