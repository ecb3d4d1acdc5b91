/** The boundary cases of promises 6 to 10. */
final class BoundariesOfTime extends Boundary {
    private BoundariesOfTime() {
    }

    static void all() {
        promise6LetsTheClockGoOn();
        promise6Seconds1To1000000();
        promise6RowsExpire();
        promise6HowManyRowsExpired();
        promise7SetsTheRetentionOfATier();
        promise7RowsExpire();
        promise7SecondsUpTo100000000();
        promise7SecondsAtLeast();
        promise7TheRetentionBefore();
        promise8TheClock();
        promise9HowManySeriesThereAre();
        promise10TheHorizonOfATier();
    }

    // ---- Promise 6: advance

    private static void promise6LetsTheClockGoOn() {
        T.test("Promise 6", "Lets the clock go on");
        Store x = new Store();
        x.advance(1);
        T.is("by 1", () -> x.clock(), 1);
        x.advance(1000000);
        T.is("by 1000000", () -> x.clock(), 1000001);
        x.advance(59);
        T.is("by 59", () -> x.clock(), 1000060);
    }

    private static void promise6Seconds1To1000000() {
        T.test("Promise 6", "seconds: 1 to 1000000", "Throws IllegalArgumentException if seconds is out of range");
        Store x = at(7200);
        x.put(0, 7000, 5);
        for (int seconds : new int[] {0, -1, 1000001, MIN, MAX, -1000000}) {
            T.refuses("" + seconds, x, s -> s.advance(seconds), ARGUMENT);
        }
        T.is("1", () -> x.advance(1) + " " + x.clock(), "0 7201");
        T.is("1000000", () -> x.advance(1000000) + " " + x.clock(), "3 1007201");
    }

    private static void promise6RowsExpire() {
        T.test("Promise 6", "rows expire.");
        for (int tier = POINTS; tier <= DAYS; tier++) {
            int t = tier;
            // A point expires a second after the horizon has come to it, a rollup when the horizon has come to its end.
            int last = FIRST_RETENTION[t] + (t == POINTS ? 0 : LENGTH[t] - 1);
            Store x = at(0);
            x.put(0, 0, 1);
            advance(x, last - 1);
            T.is("two seconds before, tier " + t, () -> x.rows(0, t), 1);
            T.is("nothing of it a second before, tier " + t, () -> x.advance(1) + " " + x.rows(0, t), "0 1");
            T.is("expired, tier " + t, () -> x.advance(1) + " " + x.rows(0, t), "1 0");
            T.is("not twice, tier " + t, () -> x.advance(1) + " " + x.rows(0, t), "0 0");
        }
    }

    private static void promise6HowManyRowsExpired() {
        T.test("Promise 6", "Returns how many rows of all series and tiers expired.");
        T.is("no series", () -> new Store().advance(1000000), 0);
        T.is("no rows", () -> at(0).advance(1000000), 0);
        Store x = of(0, GAUGE, COUNTER, GAUGE, COUNTER);
        x.setRetention(HOURS, 90000);
        x.setRetention(DAYS, 90000);
        for (int series = 0; series < 4; series++) {
            x.put(series, 0, 1);
        }
        T.is("all of all series and tiers at once", () -> x.advance(1000000), 16);
        T.is("nothing is left", () -> x.advance(1000000), 0);
        Store y = at(7200);
        y.putMany(0, 3600, 1, 60, 0, 20);
        y.putMany(1, 3600, 1, 1, 0, 20);
        T.is("none yet", () -> y.advance(3600), 0);
        T.is("a point of each series", () -> y.advance(1), 2);
        T.is("a point of one series", () -> y.advance(1), 1);
        y.advance(18);
        T.is("those that stand", () -> allRows(y, 0) + "; " + allRows(y, 1), "19 20 1 1; 0 1 1 1");
        T.is("all points that are left", () -> y.advance(20000), 19);
        T.is("the first minute of each series, the second one of one", () -> y.advance(86400 + 3720 - y.clock()), 3);
        Store z = at(7200);
        z.put(0, 7000, 1);
        z.put(0, 7001, 1);
        z.erase(0, 7000);
        z.put(0, 7001, 2);
        T.is("erased and replaced points are not counted", () -> z.advance(7200), 1);
        Store all = of(3600, GAUGE, GAUGE, GAUGE, GAUGE);
        for (int series = 0; series < 4; series++) {
            fill(all, series, 3500, 1);
        }
        T.is("100 points and 2 minutes of 4 series", () -> all.advance(100000), 4 * 102);
    }

    // ---- Promise 7: setRetention

    private static void promise7SetsTheRetentionOfATier() {
        T.test("Promise 7", "Sets the retention of a tier");
        for (int tier = POINTS; tier <= DAYS; tier++) {
            int t = tier;
            Store x = new Store();
            x.setRetention(t, 95000);
            advance(x, 95000);
            T.is("the clock at it, tier " + t, () -> x.horizon(t), 0);
            x.advance(1);
            T.is("the clock after it, tier " + t, () -> x.horizon(t), 1);
            for (int other = POINTS; other <= DAYS; other++) {
                int o = other;
                Object due = o == t ? 95000 : FIRST_RETENTION[o];
                T.is("of tier " + t + " alone, tier " + o, () -> x.setRetention(o, LONGEST), due);
            }
        }
    }

    private static void promise7RowsExpire() {
        T.test("Promise 7", "rows expire.");
        for (int tier = POINTS; tier <= DAYS; tier++) {
            int t = tier;
            Store x = keepAll(of(0, GAUGE, GAUGE));
            x.put(0, 0, 1);
            x.put(1, 0, 1);
            x.advance(200000);
            // The least horizon at which the row of time 0 has expired.
            int gone = t == POINTS ? 1 : LENGTH[t];
            x.setRetention(t, 200000 - gone + 1);
            T.is("just not, tier " + t, () -> x.rows(0, t) + " " + x.rows(1, t), "1 1");
            x.setRetention(t, 200000 - gone);
            T.is("just so, tier " + t, () -> x.rows(0, t) + " " + x.rows(1, t), "0 0");
            int others = x.rows(0, POINTS) + x.rows(0, MINUTES) + x.rows(0, HOURS) + x.rows(0, DAYS);
            T.is("rows of no other tier than " + t, () -> others, 3);
            T.is("advance does not count them again, tier " + t, () -> x.advance(1), 0);
        }
    }

    private static void promise7SecondsUpTo100000000() {
        T.test("Promise 7", "seconds: up to 100000000", "seconds is out of range");
        for (int tier = POINTS; tier <= DAYS; tier++) {
            int t = tier;
            Store x = at(200000);
            for (int seconds : new int[] {100000001, MAX}) {
                T.refuses(seconds + ", tier " + t, x, s -> s.setRetention(t, seconds), ARGUMENT);
            }
            T.is("100000000, tier " + t, () -> x.setRetention(t, 100000000), FIRST_RETENTION[t]);
            T.is("it is set, tier " + t, () -> x.setRetention(t, 99999999), 100000000);
            T.is("one less, tier " + t, () -> x.setRetention(t, 100000000), 99999999);
        }
    }

    private static void promise7SecondsAtLeast() {
        T.test("Promise 7", "for POINTS and MINUTES at least 7200, for HOURS and DAYS at least 90000");
        int[] least = {7200, 7200, 90000, 90000};
        for (int tier = POINTS; tier <= DAYS; tier++) {
            int t = tier;
            Store x = at(200000);
            for (int seconds : new int[] {least[t] - 1, 0, -1, MIN}) {
                T.refuses(seconds + ", tier " + t, x, s -> s.setRetention(t, seconds), ARGUMENT);
            }
            T.is("the least, tier " + t, () -> x.setRetention(t, least[t]), FIRST_RETENTION[t]);
            T.is("it is set, tier " + t, () -> x.horizon(t), 200000 - least[t]);
            T.is("one more, tier " + t, () -> x.setRetention(t, least[t] + 1), least[t]);
        }
    }

    private static void promise7TheRetentionBefore() {
        T.test("Promise 7", "Returns the retention before.");
        for (int tier = POINTS; tier <= DAYS; tier++) {
            int t = tier;
            Store x = new Store();
            T.is("at first, tier " + t, () -> x.setRetention(t, 100000), FIRST_RETENTION[t]);
            T.is("the same again, tier " + t, () -> x.setRetention(t, 100000), 100000);
            T.refuses("refused, tier " + t, x, s -> s.setRetention(t, 7199), ARGUMENT);
            T.is("not the one that was refused, tier " + t, () -> x.setRetention(t, 100001), 100000);
            x.advance(1000000);
            T.is("also when rows expire, tier " + t, () -> x.setRetention(t, LEAST_RETENTION[t]), 100001);
        }
    }

    // ---- Promises 8, 9, 10: clock, series, horizon

    private static void promise8TheClock() {
        T.test("Promise 8", "Returns the clock.");
        Store x = new Store();
        T.is("at first", () -> x.clock(), 0);
        x.advance(1);
        T.is("the least step", () -> x.clock(), 1);
        x.advance(1000000);
        T.is("the greatest step", () -> x.clock(), 1000001);
        T.is("asking does not move it", () -> x.clock(), 1000001);
        T.refuses("a refused step", x, s -> s.advance(0), ARGUMENT);
        T.is("nor does a refused step", () -> x.clock(), 1000001);
    }

    private static void promise9HowManySeriesThereAre() {
        T.test("Promise 9", "Returns how many series there are.");
        Store x = new Store();
        for (int many = 0; many < 4; many++) {
            T.is("" + many, () -> x.series(), many);
            T.refuses("no kind, " + many, x, s -> s.addSeries(-1), ARGUMENT);
            x.addSeries(many % 2);
        }
        T.is("4", () -> x.series(), 4);
        T.refuses("a fifth", x, s -> s.addSeries(GAUGE), STATE);
        T.is("still 4", () -> x.series(), 4);
    }

    private static void promise10TheHorizonOfATier() {
        T.test("Promise 10", "Returns the horizon of a tier.", "Returns the time.");
        for (int tier = POINTS; tier <= DAYS; tier++) {
            int t = tier;
            Store x = new Store();
            T.is("at first, tier " + t, () -> x.horizon(t), 0);
            advance(x, FIRST_RETENTION[t] - 1);
            T.is("a second before the retention, tier " + t, () -> x.horizon(t), 0);
            x.advance(1);
            T.is("at the retention, tier " + t, () -> x.horizon(t), 0);
            x.advance(1);
            T.is("a second after the retention, tier " + t, () -> x.horizon(t), 1);
            x.advance(1000000);
            T.is("it is no multiple of a length, tier " + t, () -> x.horizon(t), 1000001);
        }
    }
}
