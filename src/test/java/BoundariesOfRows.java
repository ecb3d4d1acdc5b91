/** The boundary cases of promises 11, 12 and 13. */
final class BoundariesOfRows extends Boundary {
    private BoundariesOfRows() {
    }

    static void all() {
        promise11HowManyRowsOfATier();
        promise11AtMost100Points();
        promise12InTheOrderOfTimes();
        promise12TheBeginningOfTheRollup();
        promise12ThePlace();
        promise13TheValueOfAPoint();
        promise13ItKeepsNoPointAtThisTime();
    }

    // ---- Promise 11: rows

    private static void promise11HowManyRowsOfATier() {
        T.test("Promise 11", "Returns how many rows of a tier a series keeps.", "Returns how many points, or rollups.");
        Store x = at(86401);
        T.is("an empty series", () -> allRows(x, 0), "0 0 0 0");
        x.put(0, 86400, 1);
        T.is("one of each tier", () -> allRows(x, 0), "1 1 1 1");
        x.put(0, 86400, 2);
        T.is("replaced", () -> allRows(x, 0), "1 1 1 1");
        x.put(0, 86401, 1);
        T.is("in the same minute", () -> allRows(x, 0), "2 1 1 1");
        x.put(0, 86399, 1);
        T.is("in the day before", () -> allRows(x, 0), "3 2 2 2");
        x.put(0, 86339, 1);
        T.is("in the minute before that", () -> allRows(x, 0), "4 3 2 2");
        x.put(0, 82801, 1);
        T.is("in the first minute of that hour", () -> allRows(x, 0), "5 4 2 2");
        T.is("the other series", () -> allRows(x, 1), "0 0 0 0");
        x.erase(0, 86401);
        x.erase(0, 86339);
        T.is("after two were erased", () -> allRows(x, 0), "3 3 2 2");
        x.advance(7200 + 86400 - 86401);
        T.is("after two points expired", () -> allRows(x, 0), "1 3 2 2");
    }

    private static void promise11AtMost100Points() {
        T.test("Promise 11", "Returns how many points, or rollups.");
        Store x = at(10000);
        fill(x, 0, 9000, 1);
        T.is("100 points", () -> x.rows(0, POINTS), 100);
        T.refuses("one more", x, s -> s.put(0, 9100, 1), STATE);
        T.is("100 points still", () -> x.rows(0, POINTS), 100);
        Store y = of(0, GAUGE);
        for (int part = 1; part <= 60; part++) {
            y.advance(3600);
            y.putMany(0, 3600 * part - 1200, part, 60, 0, 20);
        }
        T.is("more rollups than points", () -> y.rows(0, POINTS) + " " + y.rows(0, HOURS) + " " + y.rows(0, DAYS), "40 60 3");
        // The minutes of the last 86400 seconds: 24 of the 60 parts.
        T.is("hundreds of minutes", () -> y.rows(0, MINUTES), 24 * 20);
    }

    // ---- Promise 12: timeOf

    private static void promise12InTheOrderOfTimes() {
        T.test("Promise 12", "Returns the time of a row, in the order of times.");
        Store x = at(86460);
        for (int time : new int[] {86400, 86399, 86460, 82860, 86401, 86459}) {
            x.put(0, time, 1);
        }
        T.is("points", () -> times(x, 0, POINTS), "82860 86399 86400 86401 86459 86460");
        T.is("minutes", () -> times(x, 0, MINUTES), "82860 86340 86400 86460");
        T.is("hours", () -> times(x, 0, HOURS), "82800 86400");
        T.is("days", () -> times(x, 0, DAYS), "0 86400");
        x.erase(0, 86399);
        T.is("minutes without one of them", () -> times(x, 0, MINUTES), "82860 86400 86460");
        x.erase(0, 82860);
        T.is("hours without the first", () -> times(x, 0, HOURS), "86400");
        x.put(0, 86398, 1);
        T.is("one comes back", () -> times(x, 0, MINUTES), "86340 86400 86460");
        T.is("the hour comes back", () -> times(x, 0, HOURS), "82800 86400");
    }

    private static void promise12TheBeginningOfTheRollup() {
        T.test("Promise 12", "Returns the time of the point, or the beginning of the rollup.");
        for (int tier = MINUTES; tier <= DAYS; tier++) {
            int t = tier;
            int begin = 3 * LENGTH[t];
            for (int time : new int[] {begin, begin + 1, begin + LENGTH[t] - 1}) {
                Store x = at(time);
                x.put(0, time, 1);
                T.is("of a point " + (time - begin) + " later, tier " + t, () -> x.timeOf(0, t, 0), begin);
                T.is("the point itself, tier " + t, () -> x.timeOf(0, POINTS, 0), time);
            }
        }
        Store y = of(0, GAUGE);
        y.put(0, 0, 1);
        T.is("time 0", () -> y.timeOf(0, POINTS, 0) + y.timeOf(0, MINUTES, 0) + y.timeOf(0, HOURS, 0) + y.timeOf(0, DAYS, 0), 0);
    }

    private static void promise12ThePlace() {
        T.test("Promise 12", "place: 0 or more, less than rows()", "Throws IllegalStateException if there is no such place");
        Store x = at(86400);
        x.put(0, 86400, 1);
        x.put(0, 86399, 1);
        for (int tier = POINTS; tier <= DAYS; tier++) {
            int t = tier;
            for (int place : new int[] {-1, 2, MIN, MAX}) {
                T.refuses("place " + place + ", tier " + t, x, s -> s.timeOf(0, t, place), STATE);
            }
            T.is("the first place, tier " + t, () -> x.timeOf(0, t, 0), t == POINTS ? 86399 : 86400 - LENGTH[t]);
            T.is("the last place, tier " + t, () -> x.timeOf(0, t, 1), 86400);
            for (int place : new int[] {-1, 0, 1}) {
                T.refuses("an empty series, place " + place + ", tier " + t, x, s -> s.timeOf(1, t, place), STATE);
            }
        }
        x.erase(0, 86400);
        for (int tier = POINTS; tier <= DAYS; tier++) {
            int t = tier;
            T.refuses("the place of one that was erased, tier " + t, x, s -> s.timeOf(0, t, 1), STATE);
        }
        Store y = at(0);
        y.put(0, 0, 1);
        y.advance(7201);
        T.refuses("the place of one that expired", y, s -> s.timeOf(0, POINTS, 0), STATE);
        Store z = at(10000);
        fill(z, 0, 9000, 1);
        T.is("the last of 100", () -> z.timeOf(0, POINTS, 99), 9099);
        T.refuses("after the last of 100", z, s -> s.timeOf(0, POINTS, 100), STATE);
    }

    // ---- Promise 13: valueAt

    private static void promise13TheValueOfAPoint() {
        T.test("Promise 13", "Returns the value of a point.", "Returns the value.");
        Store x = at(10000);
        for (int value : new int[] {-1000000, -1, 0, 1, 1000000}) {
            x.put(0, 9000, value);
            T.is("" + value, () -> x.valueAt(0, 9000), value);
        }
        x.put(1, 9000, 5);
        T.is("of each series", () -> x.valueAt(0, 9000) + " " + x.valueAt(1, 9000), "1000000 5");
        fill(x, 1, 8000, 7);
        x.put(1, 8098, 8);
        x.put(1, 8000, 6);
        T.is("the first, the second, the one before the last, the last",
                () -> x.valueAt(1, 8000) + " " + x.valueAt(1, 8001) + " " + x.valueAt(1, 8098) + " " + x.valueAt(1, 9000),
                "6 7 8 5");
    }

    private static void promise13ItKeepsNoPointAtThisTime() {
        T.test("Promise 13", "time: its time", "Throws IllegalStateException if it keeps no point at this time");
        Store x = at(10000);
        for (int time : new int[] {0, 9000, 10000, -1, 10001, MIN, MAX}) {
            T.refuses("an empty series, " + time, x, s -> s.valueAt(0, time), STATE);
        }
        x.put(0, 9000, 5);
        x.put(1, 9500, 6);
        for (int time : new int[] {8999, 9001, 9500, 0, -1, 10001, MIN, MAX}) {
            T.refuses("a series with a point, " + time, x, s -> s.valueAt(0, time), STATE);
        }
        x.advance(3601);
        T.is("too old to be written is old enough to be read", () -> x.valueAt(0, 9000), 5);
        x.advance(9000 + 7200 - 13601);
        T.is("at the horizon", () -> x.valueAt(0, 9000), 5);
        x.advance(1);
        T.refuses("before the horizon", x, s -> s.valueAt(0, 9000), STATE);
        x.put(0, 16201, 5);
        x.erase(0, 16201);
        T.refuses("erased", x, s -> s.valueAt(0, 16201), STATE);
    }
}
