/** The boundary cases of "Retention". */
final class BoundariesOfRetention extends Boundary {
    private BoundariesOfRetention() {
    }

    static void all() {
        retentionAtFirst();
        theHorizonIsTheGreatestNumberEver();
        theHorizonIsAtLeast0();
        aPointExpiresWhenItsTimeIsLessThanTheHorizon();
        aRollupExpiresWhenItEndsAtTheHorizon();
        rollupsExpireBySetRetention();
        whatHasExpiredIsGone();
        aPointMustNotBeOlderThan3600Seconds();
    }

    private static void retentionAtFirst() {
        T.test("Retention", "at first 7200 for POINTS, 86400 for MINUTES, 864000 for HOURS and 8640000 for DAYS.");
        for (int tier = POINTS; tier <= DAYS; tier++) {
            int t = tier;
            T.is("tier " + t, () -> new Store().setRetention(t, LONGEST), FIRST_RETENTION[t]);
            Store x = at(FIRST_RETENTION[t]);
            T.is("the horizon when the clock is at it, tier " + t, () -> x.horizon(t), 0);
            x.advance(1);
            T.is("the horizon a second later, tier " + t, () -> x.horizon(t), 1);
        }
    }

    private static void theHorizonIsTheGreatestNumberEver() {
        T.test("Retention",
                "The horizon of a tier is the greatest number that the clock less the retention of the tier has ever been");
        for (int tier = POINTS; tier <= DAYS; tier++) {
            int t = tier;
            Store x = keepAll(at(0));
            x.advance(500000);
            T.is("longer than the clock, tier " + t, () -> x.horizon(t), 0);
            x.setRetention(t, 100000);
            T.is("shorter, tier " + t, () -> x.horizon(t), 400000);
            x.setRetention(t, 100001);
            T.is("longer by a second, tier " + t, () -> x.horizon(t), 400000);
            x.advance(1);
            T.is("just caught up, tier " + t, () -> x.horizon(t), 400000);
            x.advance(1);
            T.is("gone on, tier " + t, () -> x.horizon(t), 400001);
            x.setRetention(t, 99999);
            T.is("shorter by two seconds, tier " + t, () -> x.horizon(t), 400003);
            x.setRetention(t, 90000);
            x.setRetention(t, LONGEST);
            T.is("short for a moment, tier " + t, () -> x.horizon(t), 410002);
            for (int other = POINTS; other <= DAYS; other++) {
                int o = other;
                T.is("tier " + t + " moves no other, tier " + o, () -> x.horizon(o), o == t ? 410002 : 0);
            }
        }
    }

    private static void theHorizonIsAtLeast0() {
        T.test("Retention", "and at least 0.");
        for (int tier = POINTS; tier <= DAYS; tier++) {
            int t = tier;
            Store x = at(0);
            T.is("at first, tier " + t, () -> x.horizon(t), 0);
            x.setRetention(t, LONGEST);
            T.is("the longest retention, tier " + t, () -> x.horizon(t), 0);
            x.setRetention(t, LEAST_RETENTION[t]);
            T.is("the shortest retention, tier " + t, () -> x.horizon(t), 0);
            x.advance(LEAST_RETENTION[t] - 1);
            T.is("the clock below it, tier " + t, () -> x.horizon(t), 0);
        }
    }

    private static void aPointExpiresWhenItsTimeIsLessThanTheHorizon() {
        T.test("Retention", "A point expires when its time is less than the horizon of POINTS");
        Store x = at(10000);
        x.putMany(0, 9000, 1, 1, 1, 3);
        x.advance(7200 + 9001 - 10000);
        T.is("the horizon", () -> x.horizon(POINTS), 9001);
        T.is("a second before it; at it; a second after it", () -> times(x, 0, POINTS), "9001 9002");
        Store y = keepAll(at(10000));
        y.putMany(0, 9000, 1, 1, 1, 3);
        y.advance(10000);
        y.setRetention(POINTS, 20000 - 9001);
        T.is("the horizon by setRetention", () -> y.horizon(POINTS), 9001);
        T.is("by setRetention", () -> times(y, 0, POINTS), "9001 9002");
        Store z = of(0, GAUGE);
        z.put(0, 0, 1);
        z.advance(7200);
        T.is("at time 0 and horizon 0", () -> z.valueAt(0, 0), 1);
        z.advance(1);
        T.is("at time 0 and horizon 1", () -> z.valueAt(0, 0), STATE);
    }

    private static void aRollupExpiresWhenItEndsAtTheHorizon() {
        T.test("Retention",
                "a rollup expires when it ends (its beginning and its length together) at the horizon of its tier or before.");
        for (int tier = MINUTES; tier <= DAYS; tier++) {
            int t = tier;
            int end = 2 * LENGTH[t];
            Store x = twoRollups(t);
            x.setRetention(t, LEAST_RETENTION[t]);
            advance(x, LEAST_RETENTION[t] + end - 1 - x.clock());
            T.is("the horizon a second before its end, tier " + t, () -> x.horizon(t), end - 1);
            T.is("it stands, tier " + t, () -> times(x, 0, t), LENGTH[t] + " " + end);
            T.is("one row expires, tier " + t, () -> x.advance(1), 1);
            T.is("it is gone at its end, tier " + t, () -> times(x, 0, t), "" + end);
            T.is("the next one stands long after, tier " + t, () -> x.advance(LENGTH[t] - 1), 0);
            T.is("it expires as well, tier " + t, () -> x.advance(1), 1);
            Store y = twoRollups(t);
            y.setRetention(t, LEAST_RETENTION[t]);
            advance(y, LEAST_RETENTION[t] + end + 1 - y.clock());
            T.is("it ended before the horizon, tier " + t, () -> times(y, 0, t), "" + end);
        }
    }

    /** A rollup from one length on and one from two lengths on, all kept. */
    private static Store twoRollups(int tier) {
        Store x = keepAll(at(0));
        putAt(x, 0, 2 * LENGTH[tier] - 1, 1);
        putAt(x, 0, 2 * LENGTH[tier], 2);
        return x;
    }

    private static void rollupsExpireBySetRetention() {
        T.test("Retention", "a rollup expires when it ends");
        for (int tier = MINUTES; tier <= DAYS; tier++) {
            int t = tier;
            int end = 2 * LENGTH[t];
            Store x = twoRollups(t);
            x.advance(100000);
            int clock = end + 100000;
            x.setRetention(t, clock - (end - 1));
            T.is("the horizon a second before its end, tier " + t, () -> times(x, 0, t), LENGTH[t] + " " + end);
            x.setRetention(t, clock - end);
            T.is("the horizon at its end, tier " + t, () -> times(x, 0, t), "" + end);
        }
    }

    private static void whatHasExpiredIsGone() {
        T.test("Retention", "What has expired is gone, also if the retention is made longer later.");
        for (int tier = POINTS; tier <= DAYS; tier++) {
            int t = tier;
            Store x = at(0);
            x.put(0, 0, 1);
            x.setRetention(t, LEAST_RETENTION[t]);
            advance(x, LEAST_RETENTION[t] + LENGTH[t]);
            T.is("expired, tier " + t, () -> x.rows(0, t), 0);
            x.setRetention(t, LONGEST);
            T.is("longer then, tier " + t, () -> x.rows(0, t) + " " + x.horizon(t), "0 " + LENGTH[t]);
            x.advance(1);
            T.is("and later, tier " + t, () -> x.rows(0, t) + " " + x.horizon(t), "0 " + LENGTH[t]);
        }
        Store x = at(86460);
        x.setRetention(MINUTES, LONGEST);
        T.is("a part without a rollup has expired too", () -> x.isKnown(0, 60), false);
        T.is("nor is it a gap", () -> x.gaps(0, MINUTES, 0, 60), 0);
        Store y = at(7201);
        y.setRetention(POINTS, LONGEST);
        T.is("points before the horizon are not there to sum", () -> y.totalByPoints(0, 0, 60), STATE);
    }

    private static void aPointMustNotBeOlderThan3600Seconds() {
        T.test("Retention", "A point that is written or erased must not be older than 3600 seconds:",
                "its time must be at least the clock less 3600.");
        Store x = at(10000);
        T.is("written", () -> x.put(0, 6400, 1), false);
        T.refuses("written a second older", x, s -> s.put(0, 6399, 1), STATE);
        T.is("many, the first one", () -> x.putMany(0, 6400, 1, 1, 1, 2), 2);
        T.refuses("many, the first one a second older", x, s -> s.putMany(0, 6399, 1, 1, 1, 2), STATE);
        T.is("erased", () -> x.erase(0, 6400), 1);
        x.advance(1);
        T.is("erased at the new clock", () -> x.erase(0, 6401), 2);
        x.put(0, 6401, 3);
        x.advance(1);
        T.refuses("erased a second older", x, s -> s.erase(0, 6401), STATE);
        T.refuses("replaced a second older", x, s -> s.put(0, 6401, 3), STATE);
        for (int clock : new int[] {0, 3599, 3600}) {
            Store y = at(clock);
            T.is("time 0 written, the clock at " + clock, () -> y.put(0, 0, 4), false);
            T.is("time 0 erased, the clock at " + clock, () -> y.erase(0, 0), 4);
        }
        Store z = at(3600);
        z.put(0, 0, 4);
        z.advance(1);
        T.refuses("time 0 written, the clock at 3601", z, s -> s.put(0, 0, 5), STATE);
        T.refuses("time 0 erased, the clock at 3601", z, s -> s.erase(0, 0), STATE);
        T.is("time 1 written, the clock at 3601", () -> z.put(0, 1, 5), false);
    }
}
