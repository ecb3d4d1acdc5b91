/** The boundary cases of promises 23 to 29. */
final class BoundariesOfWindows extends Boundary {
    private BoundariesOfWindows() {
    }

    static void all() {
        promise23HowManyParts();
        promise24WhetherItIsKnown();
        promise25TheSumOfAllValues();
        promise25GreatSums();
        promise25TheWindowIsNotKnown();
        promise26ThePointsThatAreKept();
        promise26FromIsLessThanTheHorizon();
        promise27TheIncreaseFromItsParts();
        promise27GreatIncreases();
        promise27TheSeriesIsAGauge();
        promise27TheWindowIsNotKnown();
        promise28TheIncreaseAsADouble();
        promise28MoreThanFrom();
        promise28TheSeriesIsAGauge();
        promise28TheWindowIsNotKnown();
        promise29WithoutARollup();
        promise29NotExpired();
        promise29FromAndToAreMultiplesOfTheLength();
    }

    // ---- Promises 23 and 24: parts, isKnown

    private static void promise23HowManyParts() {
        T.test("Promise 23", "Returns how many parts a window is taken apart into.", "Returns how many days, hours and minutes.");
        Store x = new Store();
        T.is("nothing", () -> x.parts(0, 0), 0);
        T.is("a minute", () -> x.parts(0, 60), 1);
        T.is("a minute less than an hour", () -> x.parts(0, 3540), 59);
        T.is("an hour", () -> x.parts(0, 3600), 1);
        T.is("a minute more than an hour", () -> x.parts(0, 3660), 2);
        T.is("a minute less than a day", () -> x.parts(0, 86340), 23 + 59);
        T.is("an hour less than a day", () -> x.parts(0, 82800), 23);
        T.is("a day", () -> x.parts(0, 86400), 1);
        T.is("a minute more than a day", () -> x.parts(0, 86460), 2);
        T.is("a day's length, a minute late", () -> x.parts(60, 86460), 59 + 23 + 1);
        T.is("as many as there can be beside days", () -> x.parts(60, 3 * DAY - 60), 59 + 23 + 1 + 23 + 59);
        T.is("from 0 to the latest", () -> x.parts(0, LATEST), 24855 + 3 + 14);
        T.is("from the last day on", () -> x.parts(24854 * DAY, LATEST), 1 + 3 + 14);
        T.is("from a minute after the last day's end", () -> x.parts(24855 * DAY + 60, LATEST), 59 + 2 + 14);
        T.is("from a minute after the last hour's end", () -> x.parts(LATEST - 780, LATEST), 13);
        T.is("the last minute", () -> x.parts(LATEST - 60, LATEST), 1);
        T.is("nothing at the latest", () -> x.parts(LATEST, LATEST), 0);
        Store y = at(500000000);
        T.is("parts that have expired count", () -> y.parts(60, 86460), 59 + 23 + 1);
    }

    private static void promise24WhetherItIsKnown() {
        T.test("Promise 24", "Tells whether a window is known.", "Returns whether it is.");
        T.is("all of it at first", () -> new Store().isKnown(0, LATEST), true);
        for (int tier = MINUTES; tier <= DAYS; tier++) {
            int t = tier;
            int length = LENGTH[t];
            Store x = keepAll(new Store());
            x.setRetention(t, LEAST_RETENTION[t]);
            advance(x, LEAST_RETENTION[t] + 2 * length - 1);
            T.is("the first part has expired, tier " + t, () -> x.isKnown(0, length), false);
            T.is("the second one has just not, tier " + t, () -> x.isKnown(length, 2 * length), true);
            x.advance(1);
            T.is("the second one has, tier " + t, () -> x.isKnown(length, 2 * length), false);
            T.is("the third one has not, tier " + t, () -> x.isKnown(2 * length, 3 * length), true);
            T.is("the second and the third, tier " + t, () -> x.isKnown(length, 3 * length), false);
            T.is("nothing of the second, tier " + t, () -> x.isKnown(length, length), true);
            x.setRetention(t, LONGEST);
            T.is("longer then, tier " + t, () -> x.isKnown(length, 2 * length), false);
        }
        Store y = at(500000000);
        T.is("the day in which the clock is", () -> y.isKnown(500000000 - 500000000 % DAY, LATEST), true);
        T.is("long ago", () -> y.isKnown(0, 86400), false);
        T.is("nothing of long ago", () -> y.isKnown(0, 0), true);
    }

    // ---- Promise 25: total

    private static void promise25TheSumOfAllValues() {
        T.test("Promise 25", "Returns the sum of all values in a window, from its parts.");
        Store x = at(2 * DAY + 60);
        x.setRetention(MINUTES, LONGEST);
        x.put(0, 2 * DAY - HOUR + 60, 1);
        x.put(0, 2 * DAY - 60, 10);
        x.put(0, 2 * DAY - 1, 100);
        x.put(0, 2 * DAY, 1000);
        x.put(0, 2 * DAY + 60, 10000);
        T.is("nothing", () -> x.total(0, 2 * DAY, 2 * DAY), 0L);
        T.is("a minute", () -> x.total(0, 2 * DAY, 2 * DAY + 60), 1000L);
        T.is("the minute before", () -> x.total(0, 2 * DAY - 60, 2 * DAY), 110L);
        T.is("both, across midnight", () -> x.total(0, 2 * DAY - 60, 2 * DAY + 60), 1110L);
        T.is("an hour", () -> x.total(0, 2 * DAY - HOUR, 2 * DAY), 111L);
        T.is("an hour but its first minute", () -> x.total(0, 2 * DAY - HOUR + 60, 2 * DAY), 111L);
        T.is("an hour but its first two minutes", () -> x.total(0, 2 * DAY - HOUR + 120, 2 * DAY), 110L);
        T.is("an hour but its last minute", () -> x.total(0, 2 * DAY - HOUR, 2 * DAY - 60), 1L);
        T.is("a day", () -> x.total(0, DAY, 2 * DAY), 111L);
        T.is("a day and a minute", () -> x.total(0, DAY, 2 * DAY + 60), 1111L);
        T.is("a day and an hour", () -> x.total(0, DAY, 2 * DAY + HOUR), 11111L);
        T.is("two days", () -> x.total(0, DAY, 3 * DAY), 11111L);
        T.is("from 0 to the latest", () -> x.total(0, 0, LATEST), 11111L);
        T.is("an empty series", () -> x.total(1, 0, LATEST), 0L);
        x.advance(20000);
        T.is("points that have expired count", () -> x.rows(0, POINTS) + " " + x.total(0, 2 * DAY - 60, 2 * DAY + 60), "0 1110");
    }

    /** More values than an int can sum, 20 points a call. */
    private static Store greatValues(int kind, int value, int rise) {
        Store x = of(HOUR, kind);
        for (int round = 0; round < 22; round++) {
            x.advance(7201);
            for (int part = 0; part < 5; part++) {
                x.putMany(0, HOUR + 7201 * (round + 1) - 100 + 20 * part, value + 20 * rise * part, 1, rise, 20);
            }
        }
        return x;
    }

    private static void promise25GreatSums() {
        T.test("Promise 25", "Returns the sum.");
        Store x = greatValues(GAUGE, 1000000, 0);
        T.is("beyond the greatest int", () -> x.total(0, 0, LATEST), 2200000000L);
        T.is("of the days", () -> x.total(0, 0, 2 * DAY), 2200000000L);
        Store y = greatValues(GAUGE, -1000000, 0);
        T.is("beyond the least int", () -> y.total(0, 0, LATEST), -2200000000L);
    }

    private static void promise25TheWindowIsNotKnown() {
        T.test("Promise 25", "Throws IllegalStateException if the window is not known");
        for (int tier = MINUTES; tier <= DAYS; tier++) {
            int t = tier;
            Store x = justKnown(t);
            int end = 2 * LENGTH[t];
            T.is("just known, tier " + t, () -> x.total(1, LENGTH[t], end), 30L);
            T.refuses("a part more, tier " + t, x, s -> s.total(1, 0, end), STATE);
            x.advance(1);
            T.refuses("just not known, tier " + t, x, s -> s.total(1, LENGTH[t], end), STATE);
            T.refuses("of a series without points, tier " + t, x, s -> s.total(0, LENGTH[t], end), STATE);
            T.is("nothing of it, tier " + t, () -> x.total(1, LENGTH[t], LENGTH[t]), 0L);
            T.is("the part after it, tier " + t, () -> x.total(1, end, end + LENGTH[t]), 40L);
        }
    }

    /** Points of a counter in the second rollup (10, 20) and the third (40) of a tier; the second expires in a second. */
    private static Store justKnown(int tier) {
        int length = LENGTH[tier];
        Store x = keepAll(at(0));
        putAt(x, 1, length, 10);
        putAt(x, 1, 2 * length - 1, 20);
        putAt(x, 1, 2 * length, 40);
        x.setRetention(tier, LEAST_RETENTION[tier]);
        advance(x, LEAST_RETENTION[tier] + 2 * length - 1 - x.clock());
        return x;
    }

    // ---- Promise 26: totalByPoints

    private static void promise26ThePointsThatAreKept() {
        T.test("Promise 26", "Returns the sum of all values in a window, from the points that are kept.", "Returns the sum.");
        Store x = at(2 * DAY + 60);
        x.put(0, 2 * DAY - 61, 1);
        x.put(0, 2 * DAY - 60, 10);
        x.put(0, 2 * DAY - 1, 100);
        x.put(0, 2 * DAY, -1000);
        T.is("nothing", () -> x.totalByPoints(0, 2 * DAY, 2 * DAY), 0L);
        T.is("a minute", () -> x.totalByPoints(0, 2 * DAY - 60, 2 * DAY), 110L);
        T.is("a minute without points", () -> x.totalByPoints(0, 2 * DAY + 60, 2 * DAY + 120), 0L);
        T.is("two minutes", () -> x.totalByPoints(0, 2 * DAY - 60, 2 * DAY + 60), -890L);
        T.is("to the latest", () -> x.totalByPoints(0, 2 * DAY - 120, LATEST), -889L);
        T.is("an empty series", () -> x.totalByPoints(1, 2 * DAY - 120, LATEST), 0L);
        x.erase(0, 2 * DAY - 1);
        x.put(0, 2 * DAY - 60, 20);
        T.is("not what was erased or replaced", () -> x.totalByPoints(0, 2 * DAY - 120, LATEST), -979L);
        x.setRetention(POINTS, LONGEST);
        x.setRetention(MINUTES, 7200);
        x.advance(10000);
        T.is("also where the minutes have expired",
                () -> x.rows(0, MINUTES) + " " + x.totalByPoints(0, 2 * DAY - 60, 2 * DAY + 60), "0 -980");
        Store y = at(10000);
        fill(y, 0, 9000, 1000000);
        T.is("100 of the greatest", () -> y.totalByPoints(0, 9000, 9120), 100000000L);
        fill(y, 0, 9000, -1000000);
        T.is("100 of the least", () -> y.totalByPoints(0, 9000, 9120), -100000000L);
    }

    private static void promise26FromIsLessThanTheHorizon() {
        T.test("Promise 26", "Throws IllegalStateException if from is less than the horizon of POINTS");
        Store x = at(7200 + 5940);
        x.advance(60);
        x.put(0, 13000, 5);
        T.is("the horizon", () -> x.horizon(POINTS), 6000);
        T.is("just there", () -> x.totalByPoints(0, 6000, 13020), 5L);
        T.is("nothing just there", () -> x.totalByPoints(0, 6000, 6000), 0L);
        T.refuses("a minute before", x, s -> s.totalByPoints(0, 5940, 13020), STATE);
        T.refuses("a minute before, up to it", x, s -> s.totalByPoints(0, 5940, 6000), STATE);
        T.refuses("nothing a minute before", x, s -> s.totalByPoints(0, 5940, 5940), STATE);
        T.refuses("from 0", x, s -> s.totalByPoints(0, 0, LATEST), STATE);
        x.advance(1);
        T.refuses("a second before", x, s -> s.totalByPoints(0, 6000, 13020), STATE);
        T.refuses("nothing a second before", x, s -> s.totalByPoints(0, 6000, 6000), STATE);
        T.is("59 seconds after", () -> x.totalByPoints(0, 6060, 13020), 5L);
        x.setRetention(POINTS, LONGEST);
        T.refuses("the horizon does not go back", x, s -> s.totalByPoints(0, 6000, 13020), STATE);
        T.is("at the horizon 0", () -> at(7200).totalByPoints(0, 0, 60), 0L);
        T.refuses("at the horizon 1", at(7201), s -> s.totalByPoints(0, 0, 60), STATE);
    }

    // ---- Promise 27: increase

    private static void promise27TheIncreaseFromItsParts() {
        T.test("Promise 27", "Returns the increase of all points in a window, from its parts.");
        Store x = at(2 * DAY + 60);
        x.put(1, 2 * DAY - HOUR + 60, 100);
        x.put(1, 2 * DAY - 61, 105);
        x.put(1, 2 * DAY - 60, 7);
        x.put(1, 2 * DAY - 1, 10);
        x.put(1, 2 * DAY, 10);
        x.put(1, 2 * DAY + 60, 9);
        T.is("nothing", () -> x.increase(1, 2 * DAY, 2 * DAY), 0L);
        T.is("a minute with one point", () -> x.increase(1, 2 * DAY, 2 * DAY + 60), 0L);
        T.is("a minute without a point", () -> x.increase(1, 2 * DAY - 180, 2 * DAY - 120), 0L);
        T.is("a minute with two points", () -> x.increase(1, 2 * DAY - 60, 2 * DAY), 3L);
        T.is("no step between two parts", () -> x.increase(1, 2 * DAY - 60, 2 * DAY + 60), 3L);
        T.is("a reset between two minutes", () -> x.increase(1, 2 * DAY - 120, 2 * DAY), 7L + 3);
        T.is("a rise over minutes without points", () -> x.increase(1, 2 * DAY - HOUR, 2 * DAY - 60), 5L);
        T.is("an hour", () -> x.increase(1, 2 * DAY - HOUR, 2 * DAY), 5L + 7 + 3);
        T.is("an hour and two minutes, a reset between them", () -> x.increase(1, 2 * DAY - HOUR, 2 * DAY + 120), 5L + 7 + 3 + 9);
        T.is("a day and two minutes", () -> x.increase(1, DAY, 2 * DAY + 120), 5L + 7 + 3 + 9);
        T.is("two days", () -> x.increase(1, DAY, 3 * DAY), 5L + 7 + 3 + 9);
        T.is("from 0 to the latest", () -> x.increase(1, 0, LATEST), 5L + 7 + 3 + 9);
        T.is("the point before the window does not count", () -> x.increase(1, 2 * DAY + 60, 2 * DAY + 120), 0L);
    }

    private static void promise27GreatIncreases() {
        T.test("Promise 27", "Returns the increase.");
        // Each value is less than the one before it, so that all of them count but the first one.
        Store x = greatValues(COUNTER, 1000000, -1);
        long due = 22 * (100 * 1000000L - 99 * 100 / 2) - 1000000;
        // From round to round the counter rises by 99, instead of being reset to 1000000.
        long rises = due - 21 * (1000000L - 99);
        T.is("beyond the greatest int", () -> x.increase(0, 0, LATEST), rises);
    }

    private static void promise27TheSeriesIsAGauge() {
        T.test("Promise 27", "Throws IllegalStateException if the series is a GAUGE");
        Store y = at(10000);
        T.refuses("a gauge", y, s -> s.increase(0, 9000, 9060), STATE);
        T.refuses("nothing of a gauge", y, s -> s.increase(0, 9000, 9000), STATE);
        T.is("a counter", () -> y.increase(1, 9000, 9060), 0L);
        T.refuses("a gauge, a window that is not known", at(200000), s -> s.increase(0, 60, 120), STATE);
    }

    private static void promise27TheWindowIsNotKnown() {
        T.test("Promise 27", "or the window is not known");
        for (int tier = MINUTES; tier <= DAYS; tier++) {
            int t = tier;
            Store x = justKnown(t);
            int end = 2 * LENGTH[t];
            T.is("just known, tier " + t, () -> x.increase(1, LENGTH[t], end), 10L);
            T.refuses("a part more, tier " + t, x, s -> s.increase(1, 0, end), STATE);
            x.advance(1);
            T.refuses("just not known, tier " + t, x, s -> s.increase(1, LENGTH[t], end), STATE);
            T.is("nothing of it, tier " + t, () -> x.increase(1, LENGTH[t], LENGTH[t]), 0L);
            T.is("the part after it, tier " + t, () -> x.increase(1, end, end + LENGTH[t]), 0L);
        }
    }

    // ---- Promise 28: ratePerHour

    private static void promise28TheIncreaseAsADouble() {
        T.test("Promise 28", "the increase as a double, times 3600, divided by the seconds from from to to.",
                "Returns the increase for each hour.");
        Store x = at(2 * DAY);
        x.put(1, 2 * DAY - 60, 1);
        x.put(1, 2 * DAY - 1, 2);
        T.is("a minute", () -> x.ratePerHour(1, 2 * DAY - 60, 2 * DAY), 60.0);
        T.is("7 minutes", () -> x.ratePerHour(1, 2 * DAY - 420, 2 * DAY), 3600.0 / 420.0);
        T.is("an hour", () -> x.ratePerHour(1, 2 * DAY - HOUR, 2 * DAY), 1.0);
        T.is("a day", () -> x.ratePerHour(1, DAY, 2 * DAY), 3600.0 / 86400.0);
        T.is("from 0 to the latest", () -> x.ratePerHour(1, 0, LATEST), 3600.0 / 2147483640.0);
        T.is("one point", () -> x.ratePerHour(1, 2 * DAY, 2 * DAY + 60), 0.0);
        x.put(1, 2 * DAY - 60, 0);
        x.put(1, 2 * DAY - 1, 1000000);
        T.is("the greatest rise in a minute", () -> x.ratePerHour(1, 2 * DAY - 60, 2 * DAY), 60000000.0);
        // Times 3600 it is beyond the greatest int.
        T.is("the greatest rise in 7 minutes", () -> x.ratePerHour(1, 2 * DAY - 420, 2 * DAY), 1000000.0 * 3600.0 / 420.0);
        T.is("no point", () -> x.ratePerHour(1, 2 * DAY + 60, 2 * DAY + 120), 0.0);
    }

    private static void promise28MoreThanFrom() {
        T.test("Promise 28", "to: a multiple of 60, more than from");
        Store x = at(10000);
        x.put(1, 9000, 3);
        x.put(1, 9001, 4);
        T.is("a minute more", () -> x.ratePerHour(1, 9000, 9060), 60.0);
        T.refuses("the same", x, s -> s.ratePerHour(1, 9000, 9000), ARGUMENT);
        T.refuses("a minute less", x, s -> s.ratePerHour(1, 9000, 8940), ARGUMENT);
        T.refuses("both 0", x, s -> s.ratePerHour(1, 0, 0), ARGUMENT);
        T.refuses("both the latest", x, s -> s.ratePerHour(1, LATEST, LATEST), ARGUMENT);
    }

    private static void promise28TheSeriesIsAGauge() {
        T.test("Promise 28", "Throws IllegalStateException if the series is a GAUGE");
        Store y = at(10000);
        T.refuses("a gauge", y, s -> s.ratePerHour(0, 9000, 9060), STATE);
        T.is("a counter", () -> y.ratePerHour(1, 9000, 9060), 0.0);
        T.refuses("a gauge, a window that is not known", at(200000), s -> s.ratePerHour(0, 60, 120), STATE);
    }

    private static void promise28TheWindowIsNotKnown() {
        T.test("Promise 28", "or the window is not known");
        for (int tier = MINUTES; tier <= DAYS; tier++) {
            int t = tier;
            Store x = justKnown(t);
            int end = 2 * LENGTH[t];
            T.is("just known, tier " + t, () -> x.ratePerHour(1, LENGTH[t], end), 10.0 * 3600.0 / LENGTH[t]);
            T.refuses("a part more, tier " + t, x, s -> s.ratePerHour(1, 0, end), STATE);
            x.advance(1);
            T.refuses("just not known, tier " + t, x, s -> s.ratePerHour(1, LENGTH[t], end), STATE);
            T.refuses("nothing of it, tier " + t, x, s -> s.ratePerHour(1, LENGTH[t], LENGTH[t]), ARGUMENT);
            T.is("the part after it, tier " + t, () -> x.ratePerHour(1, end, end + LENGTH[t]), 0.0);
        }
    }

    // ---- Promise 29: gaps

    private static void promise29WithoutARollup() {
        T.test("Promise 29", "Returns how many stretches of a tier in a window are without a rollup", "Returns how many.");
        for (int tier = MINUTES; tier <= DAYS; tier++) {
            int t = tier;
            int length = LENGTH[t];
            Store x = keepAll(at(0));
            putAt(x, 0, 2 * length, 1);
            putAt(x, 0, 5 * length - 1, 1);
            T.is("nothing, tier " + t, () -> x.gaps(0, t, 2 * length, 2 * length), 0);
            T.is("one with a rollup, tier " + t, () -> x.gaps(0, t, 2 * length, 3 * length), 0);
            T.is("one without, tier " + t, () -> x.gaps(0, t, 3 * length, 4 * length), 1);
            T.is("from the first one's begin to the last one's end, tier " + t, () -> x.gaps(0, t, 2 * length, 5 * length), 1);
            T.is("from the first one's begin to the last one's, tier " + t, () -> x.gaps(0, t, 2 * length, 4 * length), 1);
            T.is("from the first one's end to the last one's, tier " + t, () -> x.gaps(0, t, 3 * length, 5 * length), 1);
            T.is("one more at both ends, tier " + t, () -> x.gaps(0, t, length, 6 * length), 3);
            T.is("from 0, tier " + t, () -> x.gaps(0, t, 0, 5 * length), 3);
            T.is("all without, tier " + t, () -> x.gaps(1, t, 0, 5 * length), 5);
            int latest = MAX - MAX % length;
            T.is("to the latest, tier " + t, () -> x.gaps(0, t, 0, latest), latest / length - 2);
            T.is("the latest one, tier " + t, () -> x.gaps(0, t, latest - length, latest), 1);
            T.is("nothing at the latest, tier " + t, () -> x.gaps(0, t, latest, latest), 0);
        }
        Store y = at(10000);
        y.put(0, 9000, 1);
        T.is("before it is erased", () -> y.gaps(0, MINUTES, 9000, 9060), 0);
        y.erase(0, 9000);
        T.is("erased", () -> y.gaps(0, MINUTES, 9000, 9060), 1);
    }

    private static void promise29NotExpired() {
        T.test("Promise 29", "of those that have not expired.");
        for (int tier = MINUTES; tier <= DAYS; tier++) {
            int t = tier;
            int length = LENGTH[t];
            Store x = keepAll(at(0));
            putAt(x, 0, length, 1);
            putAt(x, 0, 3 * length, 1);
            x.setRetention(t, LEAST_RETENTION[t]);
            advance(x, LEAST_RETENTION[t] + 2 * length - 1 - x.clock());
            T.is("a second before the second one ends, without a rollup, tier " + t, () -> x.gaps(1, t, 0, 4 * length), 3);
            T.is("a second before the second one ends, tier " + t, () -> x.gaps(0, t, 0, 4 * length), 1);
            T.is("the first one alone, tier " + t, () -> x.gaps(1, t, 0, length), 0);
            T.is("the second one alone, tier " + t, () -> x.gaps(1, t, length, 2 * length), 1);
            x.advance(1);
            T.is("the second one ends, without a rollup, tier " + t, () -> x.gaps(1, t, 0, 4 * length), 2);
            T.is("the second one ends, tier " + t, () -> x.gaps(0, t, 0, 4 * length), 1);
            T.is("the second one alone then, tier " + t, () -> x.gaps(1, t, length, 2 * length), 0);
            T.is("its rollup is gone, and no gap, tier " + t, () -> x.gaps(0, t, length, 2 * length), 0);
            T.is("nothing at the horizon, tier " + t, () -> x.gaps(1, t, 2 * length, 2 * length), 0);
            T.is("from the horizon on, tier " + t, () -> x.gaps(1, t, 2 * length, 4 * length), 2);
            x.advance(length - 1);
            T.is("a second before the third one ends, tier " + t, () -> x.gaps(1, t, 0, 4 * length), 2);
            x.advance(1);
            T.is("the third one ends, tier " + t, () -> x.gaps(1, t, 0, 4 * length), 1);
            x.setRetention(t, LONGEST);
            T.is("longer then, tier " + t, () -> x.gaps(1, t, 0, 4 * length), 1);
        }
    }

    private static void promise29FromAndToAreMultiplesOfTheLength() {
        T.test("Promise 29", "from: a multiple of the length of the tier, 0 or more",
                "to: a multiple of the length of the tier, from or more", "or from or to is out of range");
        for (int tier = MINUTES; tier <= DAYS; tier++) {
            int t = tier;
            int length = LENGTH[t];
            Store x = at(0);
            for (int from : new int[] {-length, -1, 1, length - 1, length + 1, length / 2, -2 * length, MIN}) {
                T.refuses("from " + from + ", tier " + t, x, s -> s.gaps(0, t, from, 2 * length), ARGUMENT);
            }
            for (int to : new int[] {length - 1, length + 1, 0, -length, 2 * length - 1, 2 * length + 1, 3 * length / 2, MIN, MAX}) {
                T.refuses("to " + to + ", tier " + t, x, s -> s.gaps(0, t, length, to), ARGUMENT);
            }
            T.refuses("both below 0, tier " + t, x, s -> s.gaps(0, t, -2 * length, -length), ARGUMENT);
            T.is("from 0, tier " + t, () -> x.gaps(0, t, 0, length), 1);
            T.is("to the same, tier " + t, () -> x.gaps(0, t, length, length), 0);
            T.is("both 0, tier " + t, () -> x.gaps(0, t, 0, 0), 0);
        }
        Store x = at(0);
        T.refuses("a minute is no hour's begin", x, s -> s.gaps(0, HOURS, 60, 3600), ARGUMENT);
        T.refuses("a minute is no hour's end", x, s -> s.gaps(0, HOURS, 0, 3660), ARGUMENT);
        T.refuses("an hour is no day's begin", x, s -> s.gaps(0, DAYS, 3600, 86400), ARGUMENT);
        T.refuses("an hour is no day's end", x, s -> s.gaps(0, DAYS, 0, 90000), ARGUMENT);
        T.is("an hour is a minute's begin and end", () -> x.gaps(0, MINUTES, 3600, 7200), 60);
    }
}
