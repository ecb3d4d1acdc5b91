/** Each promise of the document by hand: ordinary answers, the edges that it names, and wrong arguments. */
public final class Promises {
    private static final int GAUGE = RollupStore.GAUGE, COUNTER = RollupStore.COUNTER;
    private static final int POINTS = RollupStore.POINTS, MINUTES = RollupStore.MINUTES;
    private static final int HOURS = RollupStore.HOURS, DAYS = RollupStore.DAYS;
    private static final int ZERO = RollupStore.ZERO, PREVIOUS = RollupStore.PREVIOUS, LINEAR = RollupStore.LINEAR;
    private static final int MIN = Integer.MIN_VALUE, MAX = Integer.MAX_VALUE;

    private static final Numbered T = new Numbered(new Check("Promises"));

    private interface RollupCall {
        Object of(Store x, int series, int tier, int time);
    }

    private interface WindowCall {
        Object of(Store x, int series, int from, int to);
    }

    public static void main(String[] args) {
        newObject();
        addSeries();
        put();
        putChangesRollups();
        putIsFull();
        putMany();
        putManyEnds();
        erase();
        eraseAfterExpiry();
        advance();
        setRetention();
        clockAndSeries();
        horizon();
        rows();
        timeOf();
        valueAt();
        hasRollup();
        rollupAnswers();
        rollupRefusals();
        increaseInRollups();
        filled();
        filledLinear();
        parts();
        isKnown();
        total();
        totalByPoints();
        increase();
        ratePerHour();
        windowRefusals();
        gaps();
        T.end();
    }

    /** A gauge (0) and a counter (1), the clock at this time. */
    private static Store at(int clock) {
        Store x = new Store();
        x.addSeries(GAUGE);
        x.addSeries(COUNTER);
        for (int left = clock; left > 0; left -= 1000000) {
            x.advance(Math.min(left, 1000000));
        }
        return x;
    }

    // Promise 1
    private static void newObject() {
        Store x = new Store();
        T.is("1 series", () -> x.series(), 0);
        T.is("1 clock", () -> x.clock(), 0);
        for (int tier = POINTS; tier <= DAYS; tier++) {
            int t = tier;
            T.is("1 horizon " + t, () -> x.horizon(t), 0);
            T.is("1 rows " + t, () -> x.rows(0, t), Check.BOUNDS);
        }
        T.is("1 retention of points", () -> x.setRetention(POINTS, 7200), 7200);
        T.is("1 retention of minutes", () -> x.setRetention(MINUTES, 7200), 86400);
        T.is("1 retention of hours", () -> x.setRetention(HOURS, 90000), 864000);
        T.is("1 retention of days", () -> x.setRetention(DAYS, 90000), 8640000);
        x.addSeries(GAUGE);
        T.is("1 another object has its own series", () -> new Store().series(), 0);
    }

    // Promise 2
    private static void addSeries() {
        Store x = new Store();
        for (int kind : new int[] {-1, 2, MIN, MAX}) {
            T.refuses("2 kind " + kind, x, s -> s.addSeries(kind), Check.ARGUMENT);
        }
        T.is("2 first", () -> x.addSeries(COUNTER), 0);
        T.is("2 second", () -> x.addSeries(GAUGE), 1);
        T.is("2 third", () -> x.addSeries(GAUGE), 2);
        T.is("2 fourth", () -> x.addSeries(COUNTER), 3);
        T.refuses("2 fifth", x, s -> s.addSeries(GAUGE), Check.STATE);
        T.refuses("2 fifth of no kind", x, s -> s.addSeries(2), Check.ARGUMENT);
        for (int tier = POINTS; tier <= DAYS; tier++) {
            int t = tier;
            T.is("2 without rows of tier " + t, () -> x.rows(3, t), 0);
        }
        T.is("2 the gauge takes -1", () -> x.put(1, 0, -1), false);
        T.is("2 the counter does not", () -> x.put(0, 0, -1), Check.ARGUMENT);
        T.is("2 each has its own points", () -> x.rows(2, POINTS), 0);
    }

    // Promise 3
    private static void put() {
        Store x = at(100000);
        T.is("3 new", () -> x.put(0, 99000, 5), false);
        T.is("3 replaced", () -> x.put(0, 99000, 6), true);
        T.is("3 replaced by the same", () -> x.put(0, 99000, 6), true);
        T.is("3 the value", () -> x.valueAt(0, 99000), 6);
        T.is("3 the other series", () -> x.rows(1, POINTS), 0);
        T.is("3 at the clock", () -> x.put(0, 100000, 0), false);
        T.is("3 just not too old", () -> x.put(0, 96400, 0), false);
        T.refuses("3 too old", x, s -> s.put(0, 96399, 0), Check.STATE);
        T.refuses("3 time 0 is too old", x, s -> s.put(0, 0, 0), Check.STATE);
        T.refuses("3 later than the clock", x, s -> s.put(0, 100001, 0), Check.ARGUMENT);
        T.refuses("3 time below 0", x, s -> s.put(0, -1, 0), Check.ARGUMENT);
        T.refuses("3 least time", x, s -> s.put(0, MIN, 0), Check.ARGUMENT);
        T.is("3 least of a gauge", () -> x.put(0, 99001, -1000000), false);
        T.is("3 greatest of a gauge", () -> x.put(0, 99002, 1000000), false);
        T.refuses("3 below a gauge", x, s -> s.put(0, 99003, -1000001), Check.ARGUMENT);
        T.refuses("3 above a gauge", x, s -> s.put(0, 99003, 1000001), Check.ARGUMENT);
        T.is("3 least of a counter", () -> x.put(1, 99001, 0), false);
        T.is("3 greatest of a counter", () -> x.put(1, 99002, 1000000), false);
        T.refuses("3 below a counter", x, s -> s.put(1, 99003, -1), Check.ARGUMENT);
        T.refuses("3 above a counter", x, s -> s.put(1, 99003, 1000001), Check.ARGUMENT);
        T.refuses("3 wrong correction", x, s -> s.put(1, 99002, -1), Check.ARGUMENT);
        T.refuses("3 too old and a wrong value", x, s -> s.put(0, 5, 1000001), Check.ARGUMENT);
        T.refuses("3 no series and all wrong", x, s -> s.put(2, -1, 1000001), Check.BOUNDS);
        T.refuses("3 series -1", x, s -> s.put(-1, 99000, 0), Check.BOUNDS);
        Store y = at(0);
        T.is("3 at time 0", () -> y.put(0, 0, 1), false);
        T.refuses("3 after time 0", y, s -> s.put(0, 1, 1), Check.ARGUMENT);
    }

    private static void putChangesRollups() {
        Store x = at(100000);
        x.put(0, 99000, 5);
        x.put(0, 99030, 9);
        x.put(0, 98990, 2);
        x.put(0, 99015, -7);
        T.is("3 a late point counts", () -> x.count(0, MINUTES, 99000), 3);
        T.is("3 in between", () -> x.least(0, MINUTES, 99000), -7);
        T.is("3 it is not the first", () -> x.first(0, MINUTES, 99000), 5);
        T.is("3 the hour begins with the late one", () -> x.first(0, HOURS, 99000), 2);
        T.is("3 the day too", () -> x.first(0, DAYS, 99000), 2);
        x.put(0, 99030, 1);
        T.is("3 corrected last", () -> x.last(0, MINUTES, 99000), 1);
        T.is("3 corrected greatest", () -> x.greatest(0, HOURS, 99000), 5);
        T.is("3 corrected sum", () -> x.sum(0, DAYS, 99000), 5 + 1 + 2 - 7);
        T.is("3 points by time", () -> x.timeOf(0, POINTS, 0) + " " + x.timeOf(0, POINTS, 1) + " "
                + x.timeOf(0, POINTS, 2) + " " + x.timeOf(0, POINTS, 3), "98990 99000 99015 99030");
    }

    private static void putIsFull() {
        Store x = at(100000);
        for (int part = 0; part < 5; part++) {
            int from = 97000 + 20 * part;
            T.is("3 fill from " + from, () -> x.putMany(0, from, 1, 1, 0, 20), 20);
        }
        T.is("3 full", () -> x.rows(0, POINTS), 100);
        T.refuses("3 the 101st", x, s -> s.put(0, 97100, 1), Check.STATE);
        T.refuses("3 the 101st, earlier", x, s -> s.put(0, 96999, 1), Check.STATE);
        T.refuses("3 full, wrong value", x, s -> s.put(0, 97100, 1000001), Check.ARGUMENT);
        T.refuses("4 full", x, s -> s.putMany(0, 97100, 1, 1, 0, 1), Check.STATE);
        T.is("3 full, replaced", () -> x.put(0, 97099, 2), true);
        T.is("4 full, replaced until the first new one", () -> x.putMany(0, 97098, 3, 1, 0, 20), 2);
        T.is("3 the other series is not full", () -> x.put(1, 97100, 1), false);
        T.is("5 makes place", () -> x.erase(0, 97000), 1);
        T.is("3 place again", () -> x.put(0, 97100, 1), false);
        T.is("3 full again", () -> x.put(0, 97101, 1), Check.STATE);
        x.advance(4202);
        T.is("3 expired points leave place", () -> x.rows(0, POINTS), 99);
        T.is("3 place after expiry", () -> x.put(0, 104202, 1), false);
        T.is("3 only for one", () -> x.put(0, 104201, 1), Check.STATE);
    }

    // Promise 4
    private static void putMany() {
        Store x = at(100000);
        T.is("4 all", () -> x.putMany(0, 97000, 10, 30, -4, 5), 5);
        T.is("4 times", () -> x.timeOf(0, POINTS, 0) + " " + x.timeOf(0, POINTS, 4), "97000 97120");
        T.is("4 values", () -> x.valueAt(0, 97000) + " " + x.valueAt(0, 97060) + " " + x.valueAt(0, 97120), "10 2 -6");
        T.is("4 rollups", () -> x.rows(0, MINUTES), 3);
        T.is("4 replaced ones count", () -> x.putMany(0, 97000, 1, 60, 1, 4), 4);
        T.is("4 rows then", () -> x.rows(0, POINTS), 6);
        T.is("4 at most 20", () -> x.putMany(1, 97000, 0, 1, 1000, 20), 20);
        T.is("4 step 3600", () -> x.putMany(1, 96400, 7, 3600, -1000, 1), 1);
        T.is("4 rise of one point", () -> x.valueAt(1, 96400), 7);
        T.is("4 two hours", () -> x.putMany(1, 96400, 7, 3600, 1, 2), 2);
        int[][] wrong = {{-1, 0, 1, 0, 1}, {100001, 0, 1, 0, 1}, {99000, 1000001, 1, 0, 1}, {99000, -1000001, 1, 0, 1},
            {99000, 0, 0, 0, 1}, {99000, 0, 3601, 0, 1}, {99000, 0, 1, -1001, 1}, {99000, 0, 1, 1001, 1},
            {99000, 0, 1, 0, 0}, {99000, 0, 1, 0, 21}, {99000, 0, -1, 0, 1}, {99000, 0, 1, 0, -1},
            {MIN, 0, 1, 0, 1}, {99000, 0, MAX, 0, 1}, {99000, 0, 1, MIN, 1}, {99000, 0, 1, 0, MAX}, {0, 0, 0, 0, 1}};
        for (int[] a : wrong) {
            T.refuses("4 wrong " + java.util.Arrays.toString(a), x,
                    s -> s.putMany(0, a[0], a[1], a[2], a[3], a[4]), Check.ARGUMENT);
        }
        T.refuses("4 counter below 0", x, s -> s.putMany(1, 99000, -1, 1, 0, 1), Check.ARGUMENT);
        T.refuses("4 too old", x, s -> s.putMany(0, 96399, 0, 1, 0, 20), Check.STATE);
        T.refuses("4 too old with a wrong step", x, s -> s.putMany(0, 96399, 0, 0, 0, 20), Check.ARGUMENT);
        T.refuses("4 no series", x, s -> s.putMany(2, -1, 0, 0, 0, 0), Check.BOUNDS);
        T.refuses("4 series -1", x, s -> s.putMany(-1, 99000, 0, 1, 0, 1), Check.BOUNDS);
    }

    private static void putManyEnds() {
        Store x = at(100000);
        T.is("4 ends at the clock", () -> x.putMany(0, 99998, 1, 1, 1, 20), 3);
        T.is("4 the one at the clock stands", () -> x.valueAt(0, 100000), 3);
        T.is("4 ends at the greatest value", () -> x.putMany(0, 98000, 999000, 1, 1000, 5), 2);
        T.is("4 ends at the least value", () -> x.putMany(0, 97000, -998000, 1, -1000, 5), 3);
        T.is("4 ends a counter at 0", () -> x.putMany(1, 97000, 25, 2, -10, 20), 3);
        T.is("4 what was refused is not written", () -> x.valueAt(1, 97006), Check.STATE);
        Store y = at(100000);
        for (int part = 0; part < 9; part++) {
            y.putMany(0, 97000 + 20 * part, 1, 2, 0, 10);
        }
        T.is("4 ends when full, having skipped none", () -> y.putMany(0, 97171, 1, 2, 0, 20), 10);
        T.is("4 full then", () -> y.rows(0, POINTS), 100);
        T.is("4 all that is there is replaced", () -> y.putMany(0, 97000, 2, 2, 0, 20), 20);
    }

    // Promise 5
    private static void erase() {
        Store x = at(100000);
        x.put(0, 99000, 5);
        x.put(0, 99001, 6);
        x.put(0, 96400, 7);
        x.put(1, 99000, 8);
        T.refuses("5 no point", x, s -> s.erase(0, 99002), Check.STATE);
        T.refuses("5 below 0", x, s -> s.erase(0, -1), Check.STATE);
        T.refuses("5 least", x, s -> s.erase(0, MIN), Check.STATE);
        T.refuses("5 later than the clock", x, s -> s.erase(0, 100001), Check.STATE);
        T.refuses("5 greatest", x, s -> s.erase(0, MAX), Check.STATE);
        T.refuses("5 series 2", x, s -> s.erase(2, 99000), Check.BOUNDS);
        T.refuses("5 series -1", x, s -> s.erase(-1, -1), Check.BOUNDS);
        T.is("5 its value", () -> x.erase(0, 99000), 5);
        T.is("5 it is gone", () -> x.valueAt(0, 99000), Check.STATE);
        T.refuses("5 not twice", x, s -> s.erase(0, 99000), Check.STATE);
        T.is("5 the next one stands", () -> x.valueAt(0, 99001), 6);
        T.is("5 the other series stands", () -> x.valueAt(1, 99000), 8);
        T.is("5 the rollup tells of the rest", () -> x.count(0, MINUTES, 99000) + " " + x.first(0, MINUTES, 99000), "1 6");
        T.is("5 just not too old", () -> x.erase(0, 96400), 7);
        T.is("5 its minute is gone", () -> x.hasRollup(0, MINUTES, 96400), false);
        T.is("5 its hour is gone", () -> x.hasRollup(0, HOURS, 96400), false);
        T.is("5 its day stands", () -> x.hasRollup(0, DAYS, 96400), true);
        T.is("5 erased is not replaced", () -> x.put(0, 99000, 1), false);
        x.advance(2602);
        T.refuses("5 too old", x, s -> s.erase(0, 99001), Check.STATE);
        T.refuses("5 too old and no point", x, s -> s.erase(0, 98999), Check.STATE);
    }

    // Points of a day expire while others of it are still written and erased.
    private static void eraseAfterExpiry() {
        Store x = at(86400 + 3600);
        x.put(1, 86400, 50);
        x.put(1, 86460, 20);
        x.advance(20000);
        T.is("5 expired", () -> x.rows(1, POINTS), 0);
        x.put(1, 109000, 35);
        x.put(1, 109001, 3);
        T.is("5 the day tells of all", () -> x.count(1, DAYS, 109000) + " " + x.sum(1, DAYS, 109000), "4 108");
        T.is("5 its increase", () -> x.increase(1, 86400, 172800), 20L + 15 + 3);
        T.is("5 erased", () -> x.erase(1, 109001), 3);
        T.is("5 least comes back", () -> x.least(1, DAYS, 109000), 20);
        T.is("5 erased too", () -> x.erase(1, 109000), 35);
        T.is("5 what expired is still told of", () -> x.count(1, DAYS, 109000) + " " + x.last(1, DAYS, 109000), "2 20");
        T.is("5 the hour is gone", () -> x.hasRollup(1, HOURS, 109000), false);
        T.is("5 the day's increase", () -> x.increase(1, 86400, 172800), 20L);
    }

    // Promise 6
    private static void advance() {
        Store x = at(0);
        for (int seconds : new int[] {0, -1, 1000001, MIN, MAX}) {
            T.refuses("6 " + seconds, x, s -> s.advance(seconds), Check.ARGUMENT);
        }
        x.put(0, 0, 4);
        T.is("6 least", () -> x.advance(1), 0);
        T.is("6 clock", () -> x.clock(), 1);
        x.put(0, 1, 5);
        x.put(1, 0, 6);
        T.is("6 a point at the horizon stands", () -> x.advance(7199), 0);
        T.is("6 horizon", () -> x.horizon(POINTS), 0);
        T.is("6 two points before the horizon", () -> x.advance(1), 2);
        T.is("6 the later one stands", () -> x.rows(0, POINTS) + " " + x.timeOf(0, POINTS, 0), "1 1");
        T.is("6 the last point", () -> x.advance(1), 1);
        T.is("6 rollups stand", () -> x.rows(0, MINUTES) + x.rows(0, HOURS) + x.rows(0, DAYS), 3);
        T.is("6 a minute that ends after the horizon stands", () -> x.advance(86400 + 59 - x.clock()), 0);
        T.is("6 two minutes that end at the horizon", () -> x.advance(1), 2);
        T.is("6 hours stand", () -> x.advance(864000 + 3599 - x.clock()), 0);
        T.is("6 two hours", () -> x.advance(1), 2);
        x.advance(1000000);
        for (int step = 0; step < 6; step++) {
            T.is("6 days stand", () -> x.advance(1000000), 0);
        }
        T.is("6 and stand", () -> x.advance(8640000 + 86399 - x.clock()), 0);
        T.is("6 two days", () -> x.advance(1), 2);
        T.is("6 nothing is left", () -> x.advance(1000000), 0);
        Store y = at(0);
        y.put(0, 0, 1);
        T.is("6 greatest, all but the day", () -> y.advance(1000000), 3);
        T.is("6 the clock then", () -> y.clock(), 1000000);
    }

    // Promise 7
    private static void setRetention() {
        int[] least = {7200, 7200, 90000, 90000};
        int[] first = {7200, 86400, 864000, 8640000};
        for (int tier = POINTS; tier <= DAYS; tier++) {
            int t = tier;
            Store x = at(200000);
            T.refuses("7 too short " + t, x, s -> s.setRetention(t, least[t] - 1), Check.ARGUMENT);
            T.refuses("7 too long " + t, x, s -> s.setRetention(t, 100000001), Check.ARGUMENT);
            T.refuses("7 below 0 " + t, x, s -> s.setRetention(t, MIN), Check.ARGUMENT);
            T.is("7 before " + t, () -> x.setRetention(t, 100000000), first[t]);
            T.is("7 longest " + t, () -> x.setRetention(t, least[t]), 100000000);
            T.is("7 shortest " + t, () -> x.setRetention(t, 100000), least[t]);
            T.is("7 horizon " + t, () -> x.horizon(t), 200000 - least[t]);
        }
        Store x = at(200000);
        for (int tier : new int[] {-1, 4, MIN, MAX}) {
            T.refuses("7 tier " + tier, x, s -> s.setRetention(tier, 100000), Check.ARGUMENT);
        }
        T.is("7 none of them was set", () -> x.setRetention(POINTS, 20000), 7200);
        x.put(0, 200000, 5);
        x.advance(10000);
        T.is("7 kept longer", () -> x.rows(0, POINTS), 1);
        x.setRetention(MINUTES, 7200);
        T.is("7 the minute expired before its point", () -> x.rows(0, POINTS) + " " + x.rows(0, MINUTES), "1 0");
        x.setRetention(POINTS, 10000);
        T.is("7 a point at the horizon stands", () -> x.rows(0, POINTS), 1);
        x.setRetention(POINTS, 9999);
        T.is("7 the point expired", () -> x.rows(0, POINTS), 0);
        T.is("7 longer again", () -> x.setRetention(POINTS, 100000000), 9999);
        T.is("7 what has expired is gone", () -> x.rows(0, POINTS) + " " + x.valueAt(0, 200000), Check.STATE);
        T.is("7 the hour stands", () -> x.count(0, HOURS, 200000), 1);
        T.is("7 others do not move", () -> x.horizon(HOURS), 0);
    }

    // Promises 8 and 9
    private static void clockAndSeries() {
        Store x = new Store();
        x.advance(7);
        x.advance(1000000);
        T.is("8 clock", () -> x.clock(), 1000007);
        T.is("8 asking changes nothing", () -> x.clock(), 1000007);
        T.is("9 none", () -> x.series(), 0);
        x.addSeries(GAUGE);
        T.is("9 one", () -> x.series(), 1);
        x.addSeries(GAUGE);
        x.addSeries(COUNTER);
        x.addSeries(GAUGE);
        T.is("9 four", () -> x.series(), 4);
        Store y = new Store();
        for (int step = 0; step < 500; step++) {
            y.advance(1000000);
        }
        T.is("8 far", () -> y.clock(), 500000000);
    }

    // Promise 10
    private static void horizon() {
        Store x = at(7200);
        T.is("10 at least 0", () -> x.horizon(POINTS), 0);
        x.advance(1);
        T.is("10 points", () -> x.horizon(POINTS), 1);
        T.is("10 minutes", () -> x.horizon(MINUTES), 0);
        x.advance(1000000);
        T.is("10 points later", () -> x.horizon(POINTS), 1000001);
        T.is("10 minutes later", () -> x.horizon(MINUTES), 1007201 - 86400);
        T.is("10 hours later", () -> x.horizon(HOURS), 1007201 - 864000);
        T.is("10 days later", () -> x.horizon(DAYS), 0);
        x.setRetention(POINTS, 90000);
        T.is("10 it never goes back", () -> x.horizon(POINTS), 1000001);
        x.advance(82799);
        T.is("10 nor before the clock has caught up", () -> x.horizon(POINTS), 1000001);
        x.advance(2);
        T.is("10 and then goes on", () -> x.horizon(POINTS), 1000002);
        for (int tier : new int[] {-1, 4, MIN, MAX}) {
            T.refuses("10 tier " + tier, x, s -> s.horizon(tier), Check.ARGUMENT);
        }
    }

    // Promise 11
    private static void rows() {
        Store x = at(86400);
        x.put(0, 86400, 1);
        x.put(0, 86399, 2);
        x.put(0, 86341, 3);
        x.put(0, 86339, 4);
        x.put(0, 82800, 5);
        T.is("11 points", () -> x.rows(0, POINTS), 5);
        T.is("11 minutes", () -> x.rows(0, MINUTES), 4);
        T.is("11 hours", () -> x.rows(0, HOURS), 2);
        T.is("11 days", () -> x.rows(0, DAYS), 2);
        T.is("11 the other series", () -> x.rows(1, DAYS), 0);
        for (int tier : new int[] {-1, 4, MIN, MAX}) {
            T.refuses("11 tier " + tier, x, s -> s.rows(0, tier), Check.ARGUMENT);
        }
        T.refuses("11 series 2", x, s -> s.rows(2, POINTS), Check.BOUNDS);
        T.refuses("11 no series and no tier", x, s -> s.rows(-1, 4), Check.BOUNDS);
    }

    // Promise 12
    private static void timeOf() {
        Store x = at(86410);
        x.put(0, 86405, 1);
        x.put(0, 86399, 2);
        x.put(0, 83000, 3);
        T.is("12 points", () -> x.timeOf(0, POINTS, 0) + " " + x.timeOf(0, POINTS, 1) + " " + x.timeOf(0, POINTS, 2),
                "83000 86399 86405");
        T.is("12 minutes", () -> x.timeOf(0, MINUTES, 0) + " " + x.timeOf(0, MINUTES, 1) + " " + x.timeOf(0, MINUTES, 2),
                "82980 86340 86400");
        T.is("12 hours", () -> x.timeOf(0, HOURS, 0) + " " + x.timeOf(0, HOURS, 1), "82800 86400");
        T.is("12 days", () -> x.timeOf(0, DAYS, 0) + " " + x.timeOf(0, DAYS, 1), "0 86400");
        int[] most = {3, 3, 2, 2};
        for (int tier = POINTS; tier <= DAYS; tier++) {
            int t = tier;
            T.refuses("12 place -1 of " + t, x, s -> s.timeOf(0, t, -1), Check.STATE);
            T.refuses("12 place after the last of " + t, x, s -> s.timeOf(0, t, most[t]), Check.STATE);
            T.refuses("12 greatest place of " + t, x, s -> s.timeOf(0, t, MAX), Check.STATE);
            T.refuses("12 least place of " + t, x, s -> s.timeOf(0, t, MIN), Check.STATE);
            T.refuses("12 empty " + t, x, s -> s.timeOf(1, t, 0), Check.STATE);
        }
        T.refuses("12 tier and place", x, s -> s.timeOf(0, 4, 9), Check.ARGUMENT);
        T.refuses("12 tier -1", x, s -> s.timeOf(0, -1, 0), Check.ARGUMENT);
        T.refuses("12 all wrong", x, s -> s.timeOf(2, 4, 9), Check.BOUNDS);
        x.erase(0, 86399);
        T.is("12 after erase", () -> x.timeOf(0, MINUTES, 1), 86400);
        x.advance(7200 + 83001 - 86410);
        T.is("12 after expiry", () -> x.timeOf(0, POINTS, 0), 86405);
    }

    // Promise 13
    private static void valueAt() {
        Store x = at(10000);
        x.put(0, 9000, -12);
        T.is("13 value", () -> x.valueAt(0, 9000), -12);
        for (int time : new int[] {8999, 9001, -1, 10001, MIN, MAX}) {
            T.refuses("13 no point at " + time, x, s -> s.valueAt(0, time), Check.STATE);
        }
        T.refuses("13 of the other series", x, s -> s.valueAt(1, 9000), Check.STATE);
        T.refuses("13 series 2", x, s -> s.valueAt(2, 9000), Check.BOUNDS);
        T.refuses("13 series -1", x, s -> s.valueAt(-1, -1), Check.BOUNDS);
        x.advance(6200);
        T.is("13 at the horizon", () -> x.valueAt(0, 9000), -12);
        x.advance(1);
        T.is("13 expired", () -> x.valueAt(0, 9000), Check.STATE);
    }

    // Promise 14
    private static void hasRollup() {
        Store x = at(90000);
        x.put(0, 86400, 1);
        T.is("14 begin of the minute", () -> x.hasRollup(0, MINUTES, 86400), true);
        T.is("14 its last second", () -> x.hasRollup(0, MINUTES, 86459), true);
        T.is("14 after it", () -> x.hasRollup(0, MINUTES, 86460), false);
        T.is("14 before it", () -> x.hasRollup(0, MINUTES, 86399), false);
        T.is("14 hour", () -> x.hasRollup(0, HOURS, 89999) + " " + x.hasRollup(0, HOURS, 90000), "true false");
        T.is("14 day", () -> x.hasRollup(0, DAYS, 172799) + " " + x.hasRollup(0, DAYS, 86399), "true false");
        T.is("14 far", () -> x.hasRollup(0, DAYS, MAX), false);
        T.is("14 the other series", () -> x.hasRollup(1, DAYS, 86400), false);
        x.advance(86400 + 86459 - 90000);
        T.is("14 not expired", () -> x.hasRollup(0, MINUTES, 86400), true);
        x.advance(1);
        T.is("14 expired", () -> x.hasRollup(0, MINUTES, 86400), false);
        T.is("14 the hour has not", () -> x.hasRollup(0, HOURS, 86400), true);
        x.setRetention(HOURS, 90000);
        x.advance(86400);
        T.is("14 the hour expired before the day", () -> x.hasRollup(0, HOURS, 86400) + " " + x.hasRollup(0, DAYS, 86400),
                "false true");
    }

    // Promises 15 to 21
    private static void rollupAnswers() {
        Store x = at(90000);
        x.put(0, 86410, 7);
        x.put(0, 86400, -3);
        x.put(0, 86459, 1);
        x.put(0, 86460, 100);
        x.put(0, 90000, -1000);
        int[] of = {MINUTES, HOURS, DAYS};
        T.is("15 count", () -> x.count(0, of[0], 86430) + " " + x.count(0, of[1], 86430) + " " + x.count(0, of[2], 86430),
                "3 4 5");
        T.is("16 sum", () -> x.sum(0, of[0], 86430) + " " + x.sum(0, of[1], 86430) + " " + x.sum(0, of[2], 86430),
                "5 105 -895");
        T.is("17 average", () -> x.average(0, of[0], 86430) + " " + x.average(0, of[1], 86430) + " "
                + x.average(0, of[2], 86430), 5 / 3.0 + " 26.25 -179.0");
        T.is("18 least", () -> x.least(0, of[0], 86430) + " " + x.least(0, of[1], 86430) + " " + x.least(0, of[2], 86430),
                "-3 -3 -1000");
        T.is("19 greatest", () -> x.greatest(0, of[0], 86430) + " " + x.greatest(0, of[1], 86430) + " "
                + x.greatest(0, of[2], 86430), "7 100 100");
        T.is("20 first", () -> x.first(0, of[0], 86430) + " " + x.first(0, of[1], 86430) + " " + x.first(0, of[2], 86430),
                "-3 -3 -3");
        T.is("21 last", () -> x.last(0, of[0], 86430) + " " + x.last(0, of[1], 86430) + " " + x.last(0, of[2], 86430),
                "1 100 -1000");
        T.is("17 of values all alike", () -> x.average(0, HOURS, 90000), -1000.0);
        Store y = at(100000);
        for (int part = 0; part < 5; part++) {
            y.putMany(1, 97200 + 20 * part, 1000000, 1, 0, 20);
        }
        T.is("16 a great sum", () -> y.sum(1, HOURS, 97200), 100000000L);
        for (int round = 0; round < 24; round++) {
            y.advance(7300);
            for (int part = 0; part < 5; part++) {
                y.putMany(1, y.clock() - 200 + 20 * part, 1000000, 1, 0, 20);
            }
        }
        T.is("16 a day's sum beyond the hundred kept points", () -> y.sum(1, DAYS, 172800), 1200000000L);
    }

    private static void rollupRefusals() {
        String[] names = {"14 hasRollup", "15 count", "16 sum", "17 average", "18 least", "19 greatest", "20 first", "21 last",
            "22 filled"};
        RollupCall[] calls = {(x, s, t, at) -> x.hasRollup(s, t, at), (x, s, t, at) -> x.count(s, t, at),
            (x, s, t, at) -> x.sum(s, t, at), (x, s, t, at) -> x.average(s, t, at), (x, s, t, at) -> x.least(s, t, at),
            (x, s, t, at) -> x.greatest(s, t, at), (x, s, t, at) -> x.first(s, t, at), (x, s, t, at) -> x.last(s, t, at),
            (x, s, t, at) -> x.filled(s, t, at, PREVIOUS)};
        for (int which = 0; which < calls.length; which++) {
            RollupCall call = calls[which];
            String name = names[which];
            Store x = at(100000);
            x.put(0, 99000, 5);
            x.put(1, 99999, 5);
            for (int tier : new int[] {POINTS, -1, 4, MIN, MAX}) {
                T.refuses(name + " tier " + tier, x, s -> call.of(s, 0, tier, 99000), Check.ARGUMENT);
            }
            T.refuses(name + " time -1", x, s -> call.of(s, 0, DAYS, -1), Check.ARGUMENT);
            T.refuses(name + " least time", x, s -> call.of(s, 0, MINUTES, MIN), Check.ARGUMENT);
            for (int series : new int[] {-1, 2, 4, MIN, MAX}) {
                T.refuses(name + " series " + series, x, s -> call.of(s, series, POINTS, -1), Check.BOUNDS);
            }
            String none = which == 0 ? "false" : Check.STATE;
            T.refuses(name + " of no minute", x, s -> call.of(s, 0, MINUTES, 98999), none);
            T.refuses(name + " of no hour", x, s -> call.of(s, 0, HOURS, 97199), none);
            T.refuses(name + " of no day", x, s -> call.of(s, 0, DAYS, 86399), none);
            T.refuses(name + " of the other series", x, s -> call.of(s, 1, MINUTES, 99000), none);
            T.refuses(name + " at time 0", x, s -> call.of(s, 0, MINUTES, 0), none);
        }
    }

    private static void increaseInRollups() {
        Store x = at(90000);
        x.put(1, 86400, 10);
        x.put(1, 86410, 15);
        x.put(1, 86420, 15);
        x.put(1, 86430, 4);
        x.put(1, 86440, 0);
        x.put(1, 86450, 9);
        T.is("27 rises, stays, resets", () -> x.increase(1, 86400, 86460), 5L + 0 + 4 + 0 + 9);
        x.put(1, 86430, 16);
        T.is("27 corrected", () -> x.increase(1, 86400, 86460), 5L + 0 + 1 + 0 + 9);
        x.erase(1, 86440);
        T.is("27 erased", () -> x.increase(1, 86400, 86460), 5L + 0 + 1 + 9);
        x.put(1, 86405, 0);
        T.is("27 late", () -> x.increase(1, 86400, 86460), 0L + 15 + 0 + 1 + 9);
    }

    // Promise 22
    private static void filled() {
        Store x = at(100000);
        T.is("22 zero in an empty series", () -> x.filled(0, MINUTES, 5, ZERO), 0);
        T.is("22 previous in an empty series", () -> x.filled(0, MINUTES, 5, PREVIOUS), Check.STATE);
        T.is("22 linear in an empty series", () -> x.filled(0, MINUTES, 5, LINEAR), Check.STATE);
        x.put(0, 97000, 8);
        x.put(0, 97019, 9);
        x.put(0, 97250, -4);
        for (int rule : new int[] {ZERO, PREVIOUS, LINEAR}) {
            T.is("22 where there is one, rule " + rule, () -> x.filled(0, MINUTES, 97019, rule), 9);
        }
        T.is("22 zero before", () -> x.filled(0, MINUTES, 96959, ZERO), 0);
        T.is("22 zero between", () -> x.filled(0, MINUTES, 97100, ZERO), 0);
        T.is("22 previous between", () -> x.filled(0, MINUTES, 97199, PREVIOUS), 9);
        T.is("22 previous after the last", () -> x.filled(0, MINUTES, MAX, PREVIOUS), -4);
        T.is("22 previous of the tier", () -> x.filled(0, DAYS, 172800, PREVIOUS), -4);
        T.refuses("22 none is earlier", x, s -> s.filled(0, MINUTES, 96959, PREVIOUS), Check.STATE);
        T.refuses("22 linear without an earlier", x, s -> s.filled(0, MINUTES, 96959, LINEAR), Check.STATE);
        T.refuses("22 linear without a later", x, s -> s.filled(0, MINUTES, 97300, LINEAR), Check.STATE);
        for (int rule : new int[] {-1, 3, MIN, MAX}) {
            T.refuses("22 rule " + rule, x, s -> s.filled(0, MINUTES, 97000, rule), Check.ARGUMENT);
            T.refuses("22 no series, rule " + rule, x, s -> s.filled(3, MINUTES, 97000, rule), Check.BOUNDS);
        }
        x.advance(97020 + 86400 - 100000);
        T.is("22 an expired one is no earlier one", () -> x.filled(0, MINUTES, 97100, PREVIOUS), Check.STATE);
        T.is("22 an expired one is filled", () -> x.filled(0, MINUTES, 97000, ZERO), 0);
    }

    private static void filledLinear() {
        Store x = at(100000);
        x.put(0, 97030, 100);
        x.put(0, 97200, -111);
        // The earlier rollup begins at 97020, the later one at 97200.
        T.is("22 linear, first stretch", () -> x.filled(0, MINUTES, 97080, LINEAR), 100 - 211 * 60 / 180);
        T.is("22 linear is told by the stretch", () -> x.filled(0, MINUTES, 97139, LINEAR), 100 - 70);
        T.is("22 linear, second stretch", () -> x.filled(0, MINUTES, 97140, LINEAR), 100 - 140);
        Store y = at(100000);
        y.put(0, 97020, -5);
        y.put(0, 97140, 0);
        T.is("22 the quotient by itself is rounded", () -> y.filled(0, MINUTES, 97080, LINEAR), -5 + 2);
        y.put(0, 97140, -10);
        T.is("22 towards zero", () -> y.filled(0, MINUTES, 97080, LINEAR), -5 - 2);
        Store z = at(3600);
        z.setRetention(DAYS, 100000000);
        z.put(0, 0, -1000000);
        for (int step = 0; step < 90; step++) {
            z.advance(1000000);
        }
        z.put(0, 90000000, 1000000);
        int later = 90000000 - 90000000 % 86400;
        int middle = later - 86400;
        T.is("22 far apart", () -> z.filled(0, DAYS, middle, LINEAR), (int) (-1000000 + 2000000L * middle / later));
    }

    // Promise 23
    private static void parts() {
        Store x = new Store();
        T.is("23 nothing", () -> x.parts(0, 0), 0);
        T.is("23 nothing later", () -> x.parts(86400, 86400), 0);
        T.is("23 a minute", () -> x.parts(60, 120), 1);
        T.is("23 an hour", () -> x.parts(3600, 7200), 1);
        T.is("23 an hour's length in minutes", () -> x.parts(60, 3660), 60);
        T.is("23 59 minutes", () -> x.parts(0, 3540), 59);
        T.is("23 a day", () -> x.parts(86400, 172800), 1);
        T.is("23 a day's length", () -> x.parts(3600, 90000), 24);
        T.is("23 a day's length in minutes and hours", () -> x.parts(60, 86460), 59 + 23 + 1);
        T.is("23 hours across midnight", () -> x.parts(82800, 90000), 2);
        T.is("23 minutes across midnight", () -> x.parts(86340, 86460), 2);
        T.is("23 all kinds", () -> x.parts(86340 - 3600, 172800 + 3600 + 60), 1 + 1 + 1 + 1 + 1);
        T.is("23 up to midnight", () -> x.parts(82740, 86400), 2);
        T.is("23 as far as it goes", () -> x.parts(0, 2147483640), 24855 + 3 + 14);
        T.is("23 the last minute", () -> x.parts(2147483580, 2147483640), 1);
        T.is("23 at the end", () -> x.parts(2147483640, 2147483640), 0);
        T.is("23 no hour in it", () -> x.parts(2147482800, 2147483640), 14);
    }

    // Promise 24
    private static void isKnown() {
        Store x = at(200000);
        int minutes = 200000 - 86400;
        T.is("24 horizon", () -> x.horizon(MINUTES), minutes);
        T.is("24 the minute with the horizon", () -> x.isKnown(113580, 113640), true);
        T.is("24 the minute before", () -> x.isKnown(113520, 113580), false);
        T.is("24 nothing is known", () -> x.isKnown(60, 60), true);
        T.is("24 days are", () -> x.isKnown(0, 86400), true);
        T.is("24 hours are", () -> x.isKnown(3600, 7200), true);
        T.is("24 minutes before an hour are not", () -> x.isKnown(3540, 7200), false);
        T.is("24 minutes after an hour are not", () -> x.isKnown(3600, 7260), false);
        T.is("24 what is to come is", () -> x.isKnown(300000, 2147483640), true);
        T.is("24 days and later minutes", () -> x.isKnown(0, 172860), true);
        x.setRetention(HOURS, 90000);
        T.is("24 hour horizon", () -> x.horizon(HOURS), 110000);
        T.is("24 the hour with the horizon", () -> x.isKnown(108000, 111600), true);
        T.is("24 the hour before", () -> x.isKnown(104400, 108000), false);
        T.is("24 hours before a day", () -> x.isKnown(82800, 172800), false);
        T.is("24 hours after a day", () -> x.isKnown(0, 90000), false);
        T.is("24 days alone", () -> x.isKnown(0, 172800), true);
        x.setRetention(DAYS, 90000);
        T.is("24 the day with the horizon", () -> x.isKnown(86400, 172800), true);
        T.is("24 the day before", () -> x.isKnown(0, 86400), false);
        T.is("24 both", () -> x.isKnown(0, 172800), false);
        Store y = at(86400 + 120);
        T.is("24 it ends at the horizon", () -> y.isKnown(60, 120), false);
        T.is("24 it ends after the horizon", () -> y.isKnown(120, 180), true);
        y.setRetention(MINUTES, 100000000);
        T.is("24 it is not known again", () -> y.isKnown(60, 120), false);
    }

    // Promise 25
    private static void total() {
        Store x = at(86400 + 3600);
        T.is("25 no points", () -> x.total(0, 0, 2147483640), 0L);
        x.put(0, 86400, 1);
        x.put(0, 86459, 10);
        x.put(0, 86460, 100);
        x.put(0, 89999, 1000);
        x.put(0, 90000, -10000);
        T.is("25 a minute", () -> x.total(0, 86400, 86460), 11L);
        T.is("25 the next", () -> x.total(0, 86460, 86520), 100L);
        T.is("25 an hour", () -> x.total(0, 86400, 90000), 1111L);
        T.is("25 an hour and a minute", () -> x.total(0, 86400, 90060), -8889L);
        T.is("25 a day", () -> x.total(0, 86400, 172800), -8889L);
        T.is("25 all", () -> x.total(0, 0, 2147483640), -8889L);
        T.is("25 minutes to an hour's end", () -> x.total(0, 86460, 90000), 1100L);
        T.is("25 nothing", () -> x.total(0, 86400, 86400), 0L);
        T.is("25 the other series", () -> x.total(1, 86400, 172800), 0L);
        x.advance(86400);
        T.refuses("25 not known", x, s -> s.total(0, 86400, 86460), Check.STATE);
        T.is("25 known by its hour", () -> x.total(0, 86400, 90000), 1111L);
        T.refuses("25 an hour and a minute that is not known", x, s -> s.total(0, 86340, 90000), Check.STATE);
        T.is("25 nothing of what is not known", () -> x.total(0, 60, 60), 0L);
    }

    // Promise 26
    private static void totalByPoints() {
        Store x = at(90000);
        x.put(0, 86400, 1);
        x.put(0, 86459, 10);
        x.put(0, 86460, 100);
        T.is("26 a minute", () -> x.totalByPoints(0, 86400, 86460), 11L);
        T.is("26 two", () -> x.totalByPoints(0, 86400, 86520), 111L);
        T.is("26 nothing", () -> x.totalByPoints(0, 86460, 86460), 0L);
        T.is("26 horizon", () -> x.horizon(POINTS), 82800);
        T.is("26 from the horizon", () -> x.totalByPoints(0, 82800, 2147483640), 111L);
        T.refuses("26 before the horizon", x, s -> s.totalByPoints(0, 82740, 86520), Check.STATE);
        T.refuses("26 nothing before the horizon", x, s -> s.totalByPoints(0, 0, 0), Check.STATE);
        x.advance(1);
        T.refuses("26 just before the horizon", x, s -> s.totalByPoints(0, 82800, 86520), Check.STATE);
        x.setRetention(MINUTES, 7200);
        x.setRetention(POINTS, 100000);
        x.advance(50000);
        T.is("26 points outlive their minute", () -> x.totalByPoints(0, 86400, 86460) + " " + x.hasRollup(0, MINUTES, 86400),
                "11 false");
    }

    // Promise 27
    private static void increase() {
        Store x = at(86400 + 1800);
        x.put(1, 86000, 5);
        x.put(1, 86340, 9);
        x.put(1, 86399, 11);
        x.put(1, 86400, 4);
        x.put(1, 88200, 6);
        x.put(0, 86400, 4);
        T.is("27 within a minute", () -> x.increase(1, 86340, 86400), 2L);
        T.is("27 from minute to minute", () -> x.increase(1, 85980, 86400), 4L + 2);
        T.is("27 reset between two parts", () -> x.increase(1, 86340, 86460), 2L + 4);
        T.is("27 from hour to hour", () -> x.increase(1, 82800, 90000), 4L + 2 + 4 + 2);
        T.is("27 from day to day", () -> x.increase(1, 0, 172800), 4L + 2 + 4 + 2);
        T.is("27 minutes, hours, days", () -> x.increase(1, 82740, 2147483640), 4L + 2 + 4 + 2);
        T.is("27 one point", () -> x.increase(1, 86400, 86460), 0L);
        T.is("27 none", () -> x.increase(1, 86460, 86520), 0L);
        T.is("27 nothing", () -> x.increase(1, 86400, 86400), 0L);
        T.refuses("27 a gauge", x, s -> s.increase(0, 86400, 86460), Check.STATE);
        T.refuses("27 a gauge and a wrong window", x, s -> s.increase(0, 1, 60), Check.ARGUMENT);
        x.advance(86400);
        T.refuses("27 not known", x, s -> s.increase(1, 86340, 86400), Check.STATE);
        T.is("27 known by its hours", () -> x.increase(1, 82800, 90000), 12L);
        Store y = at(86400 * 3);
        y.setRetention(MINUTES, 100000000);
        y.put(1, 259000, 1);
        y.put(1, 259200, 1);
        y.advance(86400);
        y.put(1, 345600, 8);
        y.advance(3000);
        y.put(1, 346000, 2);
        y.put(1, 348600, 7);
        T.is("27 minutes, an hour, a day, minutes in their order", () -> y.increase(1, 258960, 348660), 0L + 7 + 2 + 5);
    }

    // Promise 28
    private static void ratePerHour() {
        Store x = at(90000);
        x.put(1, 86400, 1);
        x.put(1, 86410, 8);
        x.put(1, 89990, 10);
        x.put(0, 86400, 1);
        T.is("28 a minute", () -> x.ratePerHour(1, 86400, 86460), 7.0 * 3600 / 60);
        T.is("28 an hour", () -> x.ratePerHour(1, 86400, 90000), 9.0);
        T.is("28 a day", () -> x.ratePerHour(1, 86400, 172800), 9.0 * 3600 / 86400);
        T.is("28 no exact one", () -> x.ratePerHour(1, 86400, 86820), 7.0 * 3600 / 420);
        T.is("28 none", () -> x.ratePerHour(1, 86460, 86520), 0.0);
        T.is("28 the longest", () -> x.ratePerHour(1, 0, 2147483640), 9.0 * 3600 / 2147483640.0);
        T.refuses("28 nothing", x, s -> s.ratePerHour(1, 86400, 86400), Check.ARGUMENT);
        T.refuses("28 nothing of a gauge", x, s -> s.ratePerHour(0, 86400, 86400), Check.ARGUMENT);
        T.refuses("28 a gauge", x, s -> s.ratePerHour(0, 86400, 86460), Check.STATE);
        x.advance(86400);
        T.refuses("28 not known", x, s -> s.ratePerHour(1, 86400, 86460), Check.STATE);
        T.refuses("28 nothing of what is not known", x, s -> s.ratePerHour(1, 60, 60), Check.ARGUMENT);
    }

    // Promises 23 to 28
    private static void windowRefusals() {
        String[] names = {"23 parts", "24 isKnown", "25 total", "26 totalByPoints", "27 increase", "28 ratePerHour"};
        WindowCall[] calls = {(x, s, a, b) -> x.parts(a, b), (x, s, a, b) -> x.isKnown(a, b), (x, s, a, b) -> x.total(s, a, b),
            (x, s, a, b) -> x.totalByPoints(s, a, b), (x, s, a, b) -> x.increase(s, a, b),
            (x, s, a, b) -> x.ratePerHour(s, a, b)};
        int[][] wrong = {{-60, 60}, {-1, 60}, {1, 60}, {59, 60}, {0, 59}, {0, 61}, {120, 60}, {60, 0}, {0, -60}, {MIN, MAX},
            {-60, -60}, {0, MAX}, {30, 90}, {MIN, MIN}};
        for (int which = 0; which < calls.length; which++) {
            WindowCall call = calls[which];
            String name = names[which];
            Store x = at(500000);
            x.put(1, 499000, 5);
            for (int[] w : wrong) {
                T.refuses(name + " " + w[0] + " to " + w[1], x, s -> call.of(s, 1, w[0], w[1]), Check.ARGUMENT);
            }
            if (which >= 2) {
                for (int series : new int[] {-1, 2, MIN, MAX}) {
                    T.refuses(name + " series " + series, x, s -> call.of(s, series, 60, 0), Check.BOUNDS);
                }
                T.refuses(name + " of what is not known", x, s -> call.of(s, 1, 60, 120), Check.STATE);
            }
        }
    }

    // Promise 29
    private static void gaps() {
        Store x = at(90000);
        x.put(0, 86400, 1);
        x.put(0, 86520, 1);
        x.put(0, 90000, 1);
        T.is("29 minutes", () -> x.gaps(0, MINUTES, 86400, 86580), 1);
        T.is("29 up to one", () -> x.gaps(0, MINUTES, 86400, 86520), 1);
        T.is("29 from after one", () -> x.gaps(0, MINUTES, 86460, 86580), 1);
        T.is("29 none", () -> x.gaps(0, MINUTES, 86520, 86580), 0);
        T.is("29 nothing", () -> x.gaps(0, MINUTES, 86400, 86400), 0);
        T.is("29 hours", () -> x.gaps(0, HOURS, 0, 97200), 25);
        T.is("29 days", () -> x.gaps(0, DAYS, 0, 259200), 2);
        T.is("29 what is to come", () -> x.gaps(0, MINUTES, 90000, 93600), 59);
        T.is("29 the other series", () -> x.gaps(1, DAYS, 0, 86400), 1);
        T.is("29 as far as it goes", () -> x.gaps(1, MINUTES, 0, 2147483640), (2147483640 - 3600) / 60);
        T.is("29 the minute horizon", () -> x.horizon(MINUTES), 3600);
        T.is("29 expired ones do not count", () -> x.gaps(0, MINUTES, 3480, 3660), 1);
        T.is("29 all expired", () -> x.gaps(0, MINUTES, 0, 3600), 0);
        x.advance(59);
        T.is("29 not yet expired", () -> x.gaps(0, MINUTES, 3480, 3660), 1);
        x.advance(1);
        T.is("29 expired", () -> x.gaps(0, MINUTES, 3480, 3660), 0);
        x.setRetention(MINUTES, 100000000);
        T.is("29 gone is gone", () -> x.gaps(0, MINUTES, 3480, 3660), 0);
        int[] length = {60, 3600, 86400};
        for (int tier = MINUTES; tier <= DAYS; tier++) {
            int t = tier;
            int of = length[t - 1];
            int[][] wrong = {{-of, of}, {1, of}, {of / 2, of}, {0, of + 1}, {0, of / 2}, {2 * of, of}, {MIN, MAX}, {0, MAX}};
            for (int[] w : wrong) {
                T.refuses("29 tier " + t + " " + w[0] + " to " + w[1], x, s -> s.gaps(0, t, w[0], w[1]), Check.ARGUMENT);
            }
        }
        T.refuses("29 minutes for hours", x, s -> s.gaps(0, HOURS, 60, 3600), Check.ARGUMENT);
        T.refuses("29 hours for days", x, s -> s.gaps(0, DAYS, 0, 90000), Check.ARGUMENT);
        for (int tier : new int[] {POINTS, -1, 4, MIN, MAX}) {
            T.refuses("29 tier " + tier, x, s -> s.gaps(0, tier, 0, 86400), Check.ARGUMENT);
        }
        T.refuses("29 series 2", x, s -> s.gaps(2, POINTS, 1, 0), Check.BOUNDS);
        T.refuses("29 series -1", x, s -> s.gaps(-1, MINUTES, 0, 60), Check.BOUNDS);
    }
}
