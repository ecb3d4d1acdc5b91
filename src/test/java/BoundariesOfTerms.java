/** The boundary cases of "What it is", "Terms" and "Tiers and rollups". */
final class BoundariesOfTerms extends Boundary {
    private BoundariesOfTerms() {
    }

    static void all() {
        itIsUsedForAtMost512Calls();
        theClockIsAt0FirstAndOnlyGoesOn();
        thereAreAtMost4Series();
        seriesAreNumberedFrom0();
        eachIsAGaugeOrACounter();
        aSeriesHasAtMostOnePointAtEachTime();
        theValueOfAPointOfAGauge();
        theValueOfAPointOfACounter();
        tiersAndRollups();
        increaseOfPoints();
    }

    // ---- What it is, Terms

    private static void itIsUsedForAtMost512Calls() {
        T.test("What it is", "An object is used for at most 512 calls after it has been made",
                "what later calls answer is free.");
        Store x = new Store();
        for (int call = 0; call < 511; call++) {
            x.advance(1000000);
        }
        T.is("the 512th call, as late as it can be", () -> x.clock(), 511000000);
        Store y = new Store();
        for (int call = 0; call < 511; call++) {
            y.advance(1000000);
        }
        T.is("the 512th call lets the clock go on", () -> y.advance(1000000), 0);
        Store z = of(0, COUNTER);
        z.setRetention(MINUTES, LONGEST);
        for (int round = 0; round < 127; round++) {
            int clock = 7260 * (round + 1);
            z.advance(7260);
            for (int part = 0; part < 3; part++) {
                z.putMany(0, clock - 3600 + 1200 * part, 1, 60, 0, 20);
            }
        }
        T.is("the 511th call, so many minutes", () -> z.rows(0, MINUTES), 127 * 60);
        T.is("the 512th call, so many points", () -> z.total(0, 0, LATEST), 127 * 60L);
    }

    private static void theClockIsAt0FirstAndOnlyGoesOn() {
        T.test("Terms", "the clock is at 0 first and only goes on.");
        Store x = new Store();
        T.is("first", () -> x.clock(), 0);
        T.refuses("it does not stand still", x, s -> s.advance(0), ARGUMENT);
        T.refuses("it does not go back", x, s -> s.advance(-1), ARGUMENT);
        x.advance(1);
        T.is("it goes on", () -> x.clock(), 1);
        x.addSeries(GAUGE);
        x.put(0, 0, 1);
        x.putMany(0, 0, 1, 1, 1, 20);
        x.erase(0, 0);
        x.setRetention(POINTS, 7200);
        T.is("no other call moves it", () -> x.clock(), 1);
    }

    private static void thereAreAtMost4Series() {
        T.test("Terms", "There are at most 4 series");
        Store x = of(0, GAUGE, COUNTER, GAUGE);
        T.is("a fourth", () -> x.addSeries(COUNTER), 3);
        T.refuses("no fifth", x, s -> s.addSeries(COUNTER), STATE);
        T.is("still 4", () -> x.series(), 4);
        T.is("the fourth takes points", () -> x.put(3, 0, 1), false);
        T.refuses("the fifth takes none", x, s -> s.put(4, 0, 1), BOUNDS);
    }

    private static void seriesAreNumberedFrom0() {
        T.test("Terms", ", numbered from 0,");
        Store x = new Store();
        T.is("the first", () -> x.addSeries(GAUGE), 0);
        T.is("0 is one", () -> x.put(0, 0, 1), false);
        T.refuses("-1 is none", x, s -> s.put(-1, 0, 1), BOUNDS);
        T.refuses("1 is none yet", x, s -> s.put(1, 0, 1), BOUNDS);
        T.is("the second", () -> x.addSeries(GAUGE), 1);
        T.is("1 is one now", () -> x.put(1, 0, 1), false);
    }

    private static void eachIsAGaugeOrACounter() {
        T.test("Terms", "each a GAUGE or a COUNTER.");
        Store x = new Store();
        T.refuses("below GAUGE", x, s -> s.addSeries(GAUGE - 1), ARGUMENT);
        T.refuses("above COUNTER", x, s -> s.addSeries(COUNTER + 1), ARGUMENT);
        T.is("a gauge", () -> x.addSeries(GAUGE), 0);
        T.is("a counter", () -> x.addSeries(COUNTER), 1);
        T.is("a gauge has no increase", () -> x.increase(0, 0, 0), STATE);
        T.is("a counter has", () -> x.increase(1, 0, 0), 0L);
    }

    private static void aSeriesHasAtMostOnePointAtEachTime() {
        T.test("Terms", "A series has at most one point at each time.");
        Store x = at(100);
        x.put(0, 50, 1);
        x.put(0, 50, 2);
        T.is("one point", () -> x.rows(0, POINTS), 1);
        T.is("one is told of", () -> x.count(0, MINUTES, 50) + " " + x.sum(0, MINUTES, 50), "1 2");
        T.is("another a second before", () -> x.put(0, 49, 3), false);
        T.is("another a second after", () -> x.put(0, 51, 4), false);
        T.is("three points", () -> times(x, 0, POINTS), "49 50 51");
        T.is("another series has its own at this time", () -> x.put(1, 50, 5), false);
        T.is("each has its value", () -> x.valueAt(0, 50) + " " + x.valueAt(1, 50), "2 5");
    }

    private static void theValueOfAPointOfAGauge() {
        T.test("Terms", "The value of a point of a GAUGE is -1000000 to 1000000");
        Store x = at(100);
        T.is("least", () -> x.put(0, 1, -1000000), false);
        T.is("greatest", () -> x.put(0, 2, 1000000), false);
        T.refuses("below", x, s -> s.put(0, 3, -1000001), ARGUMENT);
        T.refuses("above", x, s -> s.put(0, 3, 1000001), ARGUMENT);
        T.is("they stand", () -> x.valueAt(0, 1) + " " + x.valueAt(0, 2), "-1000000 1000000");
    }

    private static void theValueOfAPointOfACounter() {
        T.test("Terms", "that of a COUNTER 0 to 1000000.");
        Store x = at(100);
        T.is("least", () -> x.put(1, 1, 0), false);
        T.is("greatest", () -> x.put(1, 2, 1000000), false);
        T.refuses("below", x, s -> s.put(1, 3, -1), ARGUMENT);
        T.refuses("above", x, s -> s.put(1, 3, 1000001), ARGUMENT);
        T.is("they stand", () -> x.valueAt(1, 1) + " " + x.valueAt(1, 2), "0 1000000");
    }

    // ---- Tiers and rollups

    private static void tiersAndRollups() {
        thereAreFourTiers();
        lengthAndBeginOfARollup();
        aStretchWithAPointThatWasNotErased();
        whetherThePointIsStillKeptOrNot();
        asLongAsTheRollupHasNotExpired();
        aRollupTellsOfAllThesePoints();
        allThesePointsAtTheLeastRetentions();
        aRollupOfOnePoint();
        theLeastAndTheGreatestValue();
        theFirstAndTheLastValueByTime();
        aRollupTellsOfCorrections();
    }

    private static void thereAreFourTiers() {
        T.test("Tiers and rollups", "There are four tiers of rows: POINTS, MINUTES, HOURS and DAYS.");
        Store x = at(100);
        x.put(0, 50, 1);
        for (int tier = POINTS; tier <= DAYS; tier++) {
            int t = tier;
            T.is("tier " + t, () -> x.rows(0, t), 1);
        }
        T.refuses("below POINTS", x, s -> s.rows(0, POINTS - 1), ARGUMENT);
        T.refuses("above DAYS", x, s -> s.rows(0, DAYS + 1), ARGUMENT);
    }

    private static void lengthAndBeginOfARollup() {
        T.test("Tiers and rollups", "The length of a rollup is 60, 3600 or 86400 seconds",
                "it begins at a multiple of its length.");
        for (int tier = MINUTES; tier <= DAYS; tier++) {
            int t = tier;
            int begin = 2 * LENGTH[tier];
            int end = 3 * LENGTH[tier];
            Store x = at(0);
            putAt(x, 0, begin - 1, 1);
            putAt(x, 0, begin, 2);
            putAt(x, 0, end - 1, 4);
            putAt(x, 0, end, 8);
            T.is("begins of tier " + t, () -> times(x, 0, t), LENGTH[t] + " " + begin + " " + end);
            T.is("the one that ends there, tier " + t, () -> x.sum(0, t, begin - 1), 1L);
            T.is("from its begin, tier " + t, () -> x.sum(0, t, begin), 2L + 4);
            T.is("to its last second, tier " + t, () -> x.sum(0, t, end - 1), 2L + 4);
            T.is("the one after, tier " + t, () -> x.sum(0, t, end), 8L);
        }
    }

    private static void aStretchWithAPointThatWasNotErased() {
        T.test("Tiers and rollups",
                "A series has a rollup for each such stretch of time in which it has had a point that was not erased");
        Store x = at(90000);
        T.is("none without a point", () -> allRows(x, 0), "0 0 0 0");
        x.put(0, 86400, 1);
        T.is("one of each tier", () -> allRows(x, 0), "1 1 1 1");
        T.is("none of another series", () -> allRows(x, 1), "0 0 0 0");
        x.put(0, 86459, 2);
        x.put(0, 86460, 3);
        x.put(0, 90000, 4);
        T.is("a minute, an hour more", () -> allRows(x, 0), "4 3 2 1");
        x.erase(0, 86400);
        T.is("another point is in its minute", () -> allRows(x, 0), "3 3 2 1");
        x.erase(0, 86459);
        T.is("the minute's last one was erased", () -> times(x, 0, MINUTES) + "; " + allRows(x, 0), "86460 90000; 2 2 2 1");
        x.erase(0, 86460);
        T.is("the hour's last one was erased", () -> times(x, 0, HOURS) + "; " + allRows(x, 0), "90000; 1 1 1 1");
        x.erase(0, 90000);
        T.is("the day's last one was erased", () -> allRows(x, 0), "0 0 0 0");
        x.put(0, 86400, 5);
        T.is("written again", () -> allRows(x, 0) + " " + x.count(0, DAYS, 86400), "1 1 1 1 1");
    }

    private static void whetherThePointIsStillKeptOrNot() {
        T.test("Tiers and rollups", "(whether that point is still kept or not)");
        Store x = at(90000);
        x.put(0, 90000, 7);
        x.advance(7200);
        T.is("kept at the last moment", () -> allRows(x, 0), "1 1 1 1");
        x.advance(1);
        T.is("no longer kept", () -> allRows(x, 0), "0 1 1 1");
        T.is("the minute tells of it", () -> x.count(0, MINUTES, 90000) + " " + x.last(0, MINUTES, 90000), "1 7");
        x.put(0, 97201, 8);
        x.erase(0, 97201);
        T.is("a later point of its day was erased", () -> allRows(x, 0), "0 1 1 1");
        T.is("the day tells of the one that is not kept", () -> x.count(0, DAYS, 90000) + " " + x.last(0, DAYS, 90000), "1 7");
    }

    private static void asLongAsTheRollupHasNotExpired() {
        T.test("Tiers and rollups", "as long as the rollup has not expired.");
        Store x = at(90000);
        x.put(0, 90000, 7);
        x.advance(86400 + 59);
        T.is("the minute ends after the horizon", () -> allRows(x, 0), "0 1 1 1");
        x.advance(1);
        T.is("the minute ends at the horizon", () -> allRows(x, 0), "0 0 1 1");
        advance(x, 864000 + 93600 - 1 - x.clock());
        T.is("the hour ends after the horizon", () -> allRows(x, 0), "0 0 1 1");
        x.advance(1);
        T.is("the hour ends at the horizon", () -> allRows(x, 0), "0 0 0 1");
        advance(x, 8640000 + 172800 - 1 - x.clock());
        T.is("the day ends after the horizon", () -> allRows(x, 0), "0 0 0 1");
        x.advance(1);
        T.is("the day ends at the horizon", () -> allRows(x, 0), "0 0 0 0");
    }

    private static void aRollupTellsOfAllThesePoints() {
        T.test("Tiers and rollups", "A rollup tells of all these points:");
        // The first half of the day's points has expired, with the extremes among them.
        Store x = at(0);
        putAt(x, 1, 86400, 900);
        putAt(x, 1, 86401, 100);
        putAt(x, 1, 129600, 500);
        putAt(x, 1, 172799, 600);
        T.is("one of them is still kept", () -> x.rows(1, POINTS), 1);
        T.is("how many", () -> x.count(1, DAYS, 86400), 4);
        T.is("the sum", () -> x.sum(1, DAYS, 86400), 2100L);
        T.is("the least", () -> x.least(1, DAYS, 86400), 100);
        T.is("the greatest", () -> x.greatest(1, DAYS, 86400), 900);
        T.is("the first", () -> x.first(1, DAYS, 86400), 900);
        T.is("the last", () -> x.last(1, DAYS, 86400), 600);
        T.is("the increase", () -> x.increase(1, 86400, 172800), 100L + 400 + 100);
    }

    /** The first second of each stretch is written at once, its last second as late as it may be. */
    private static void allThesePointsAtTheLeastRetentions() {
        T.test("Tiers and rollups", "A rollup tells of all these points:");
        for (int tier = MINUTES; tier <= DAYS; tier++) {
            int t = tier;
            int begin = 2 * LENGTH[t];
            int end = 3 * LENGTH[t];
            Store x = at(0);
            for (int other = POINTS; other <= DAYS; other++) {
                x.setRetention(other, LEAST_RETENTION[other]);
            }
            putAt(x, 1, begin, 900);
            putAt(x, 1, begin + 1, 100);
            putAt(x, 1, begin + LENGTH[t] / 2, 200);
            advance(x, end - 1 + 3600 - x.clock());
            T.refuses("a second earlier it is too late, tier " + t, x, s -> s.put(1, end - 2, 0), STATE);
            T.is("the last second, tier " + t, () -> x.put(1, end - 1, 300), false);
            T.is("it tells of all, tier " + t, () -> told(x, 1, t, begin), "4 1500 100 900 900 300 375.0 300");
            T.is("erased, tier " + t, () -> x.erase(1, end - 1), 300);
            T.is("it tells of the rest, tier " + t, () -> told(x, 1, t, begin), "3 1200 100 900 900 200 400.0 200");
        }
    }

    private static void theLeastAndTheGreatestValue() {
        T.test("Tiers and rollups", "the least and the greatest value");
        for (int tier = HOURS; tier <= DAYS; tier++) {
            int t = tier;
            int begin = 2 * LENGTH[t];
            // Three stretches of the finer tier, two points in each; one of them has both the least and the greatest.
            for (int which = 0; which < 3; which++) {
                Store x = at(0);
                for (int stretch = 0; stretch < 3; stretch++) {
                    int time = begin + stretch * LENGTH[t - 1];
                    putAt(x, 0, time, stretch == which ? -90 : 10 + stretch);
                    putAt(x, 0, time + 1, stretch == which ? 90 : 20 - stretch);
                }
                String what = "in stretch " + which + " of tier " + t;
                T.is("the least " + what, () -> x.least(0, t, begin), -90);
                T.is("the greatest " + what, () -> x.greatest(0, t, begin), 90);
            }
        }
    }

    private static void aRollupOfOnePoint() {
        T.test("Tiers and rollups", "how many they are, the sum of their values, the least and the greatest value");
        for (int value : new int[] {0, 1000000, 5}) {
            Store x = at(86400);
            x.put(1, 86400, value);
            for (int tier = MINUTES; tier <= DAYS; tier++) {
                int t = tier;
                String due = "1 " + value + " " + value + " " + value + " " + value + " " + value + " " + (double) value + " 0";
                T.is("of one point, " + value + ", tier " + t, () -> told(x, 1, t, 86400), due);
            }
        }
        Store y = at(86402);
        y.put(0, 86401, -1000000);
        T.is("the least value alone", () -> y.least(0, DAYS, 86400) + " " + y.greatest(0, DAYS, 86400), "-1000000 -1000000");
        y.put(0, 86400, 1000000);
        y.put(0, 86402, 1000000);
        T.is("both ends of the values", () -> y.least(0, DAYS, 86400) + " " + y.greatest(0, DAYS, 86400), "-1000000 1000000");
    }

    private static String told(Store x, int series, int tier, int time) {
        return x.count(series, tier, time) + " " + x.sum(series, tier, time) + " " + x.least(series, tier, time) + " "
                + x.greatest(series, tier, time) + " " + x.first(series, tier, time) + " " + x.last(series, tier, time) + " "
                + x.average(series, tier, time) + " " + x.increase(series, time, time + LENGTH[tier]);
    }

    private static void theFirstAndTheLastValueByTime() {
        T.test("Tiers and rollups", "the first and the last value by time");
        Store x = at(86520);
        x.put(0, 86430, 1);
        x.put(0, 86459, 2);
        x.put(0, 86400, 3);
        T.is("not by the order of writing", () -> x.first(0, MINUTES, 86400) + " " + x.last(0, MINUTES, 86400), "3 2");
        x.put(0, 86460, 4);
        x.put(0, 86399, 5);
        T.is("points just outside do not count", () -> x.first(0, MINUTES, 86400) + " " + x.last(0, MINUTES, 86400), "3 2");
        T.is("the hour", () -> x.first(0, HOURS, 86400) + " " + x.last(0, HOURS, 86400), "3 4");
        x.erase(0, 86400);
        T.is("the next one is first", () -> x.first(0, MINUTES, 86400) + " " + x.first(0, DAYS, 86400), "1 1");
        x.erase(0, 86459);
        T.is("the one before is last", () -> x.last(0, MINUTES, 86400) + " " + x.first(0, MINUTES, 86400), "1 1");
    }

    private static void aRollupTellsOfCorrections() {
        T.test("Tiers and rollups", "A rollup tells of all these points");
        Store x = at(86520);
        x.put(1, 86400, 5);
        x.put(1, 86401, 9);
        x.put(1, 86402, 7);
        x.put(1, 86401, 6);
        T.is("the value that was replaced is not told of", () -> told(x, 1, MINUTES, 86400), "3 18 5 7 5 7 6.0 2");
        T.is("nor by the hour", () -> told(x, 1, HOURS, 86400), "3 18 5 7 5 7 6.0 2");
        T.is("nor by the day", () -> told(x, 1, DAYS, 86400), "3 18 5 7 5 7 6.0 2");
    }

    /** Values of a counter, one after the other, and their increase behind them. */
    private static final int[][] INCREASES = {{5, 0}, {0, 0}, {1000000, 0}, {5, 5, 0}, {5, 6, 1}, {5, 4, 4}, {5, 0, 0}, {0, 0, 0},
        {0, 1000000, 1000000}, {1000000, 0, 0}, {1000000, 999999, 999999}, {999999, 1000000, 1}, {3, 1, 2, 2}, {1, 0, 1, 1},
        {1, 3, 2, 2, 5, 7}, {9, 8, 7, 6, 21}};

    private static void increaseOfPoints() {
        T.test("Tiers and rollups", "of the next value less the value,",
                "where the next value is less than the value (the counter was reset), of the next value alone");
        for (int[] row : INCREASES) {
            for (int step : new int[] {1, MINUTE, HOUR}) {
                Store x = keepAll(at(86400));
                int many = row.length - 1;
                for (int place = 0; place < many; place++) {
                    putAt(x, 1, 86400 + place * step, row[place]);
                }
                long due = row[many];
                String what = java.util.Arrays.toString(row) + ", a step of " + step;
                T.is("in a day: " + what, () -> x.increase(1, 86400, 172800), due);
                T.is("in hours: " + what, () -> x.increase(1, 86400, 86400 + 5 * HOUR), due);
                T.is("in an hour and minutes: " + what, () -> x.increase(1, 82800, 86400 + 4 * HOUR + 300), due);
            }
        }
        T.test("Tiers and rollups", "it is 0 for one point or none.");
        Store x = at(86400);
        T.is("none", () -> x.increase(1, 0, 172800), 0L);
        x.put(1, 86400, 1000000);
        T.is("one", () -> x.increase(1, 0, 172800), 0L);
        x.put(1, 86399, 999999);
        T.is("two", () -> x.increase(1, 0, 172800), 1L);
        x.erase(1, 86399);
        T.is("one again", () -> x.increase(1, 0, 172800), 0L);
        x.erase(1, 86400);
        T.is("none again", () -> x.increase(1, 0, 172800), 0L);
    }
}
