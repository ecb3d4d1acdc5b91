/** The boundary cases of the terms in "Windows". */
final class BoundariesOfWindowParts extends Boundary {
    private BoundariesOfWindowParts() {
    }

    static void all() {
        fromIsInAWindowAndToIsNot();
        toIsNotLess();
        itIsTakenApart();
        aWindowIsKnown();
        noneOfThesePartsHasExpired();
        partsWithoutARollupHaveNoPoints();
    }

    private static void fromIsInAWindowAndToIsNot() {
        T.test("Windows", "A window is the time from a multiple of 60 up to, but not including,");
        for (int tier = MINUTES; tier <= DAYS; tier++) {
            int begin = 2 * LENGTH[tier];
            int end = 3 * LENGTH[tier];
            Store x = keepAll(at(0));
            putAt(x, 1, begin - 1, 1);
            putAt(x, 1, begin, 10);
            putAt(x, 1, end - 1, 100);
            putAt(x, 1, end, 1000);
            String what = ", a window of a rollup of tier " + tier;
            double rate = 90.0 * 3600 / LENGTH[tier];
            T.is("total" + what, () -> x.total(1, begin, end), 110L);
            T.is("totalByPoints" + what, () -> x.totalByPoints(1, begin, end), 110L);
            T.is("increase" + what, () -> x.increase(1, begin, end), 90L);
            T.is("ratePerHour" + what, () -> x.ratePerHour(1, begin, end), rate);
            T.is("a minute earlier" + what, () -> x.total(1, begin - 60, begin), 1L);
            T.is("a minute earlier, by points" + what, () -> x.totalByPoints(1, begin - 60, begin), 1L);
            T.is("a minute later" + what, () -> x.total(1, end, end + 60), 1000L);
            T.is("a minute later, by points" + what, () -> x.totalByPoints(1, end, end + 60), 1000L);
            T.is("a minute more at both ends" + what, () -> x.total(1, begin - 60, end + 60), 1111L);
            T.is("a minute more at both ends, by points" + what, () -> x.totalByPoints(1, begin - 60, end + 60), 1111L);
            T.is("a minute more at both ends, increase" + what, () -> x.increase(1, begin - 60, end + 60), 999L);
        }
    }

    private static void toIsNotLess() {
        T.test("Windows", "a multiple of 60 that is not less.");
        Store x = at(100);
        x.put(1, 60, 5);
        T.is("the same", () -> x.parts(60, 60) + " " + x.isKnown(60, 60) + " " + x.total(1, 60, 60) + " "
                + x.totalByPoints(1, 60, 60) + " " + x.increase(1, 60, 60) + " " + x.gaps(1, MINUTES, 60, 60), "0 true 0 0 0 0");
        T.refuses("less, parts", x, s -> s.parts(60, 0), ARGUMENT);
        T.refuses("less, isKnown", x, s -> s.isKnown(60, 0), ARGUMENT);
        T.refuses("less, total", x, s -> s.total(1, 60, 0), ARGUMENT);
        T.refuses("less, totalByPoints", x, s -> s.totalByPoints(1, 60, 0), ARGUMENT);
        T.refuses("less, increase", x, s -> s.increase(1, 60, 0), ARGUMENT);
        T.refuses("less, ratePerHour", x, s -> s.ratePerHour(1, 60, 0), ARGUMENT);
        T.refuses("less, gaps", x, s -> s.gaps(1, MINUTES, 60, 0), ARGUMENT);
    }

    private static void itIsTakenApart() {
        T.test("Windows", "It is taken apart into days, hours and minutes: all whole days in it, "
                + "then all whole hours in it that are in none of these days, then the minutes that are left.");
        // From, to, days, hours, minutes.
        int[][] windows = {{0, DAY, 1, 0, 0}, {0, DAY - 60, 0, 23, 59}, {60, DAY, 0, 23, 59}, {0, DAY + 60, 1, 0, 1},
            {DAY - 60, 2 * DAY, 1, 0, 1}, {60, DAY + 60, 0, 23, 60}, {HOUR, DAY + HOUR, 0, 24, 0}, {0, DAY + HOUR, 1, 1, 0},
            {DAY - HOUR, 2 * DAY, 1, 1, 0}, {0, 2 * DAY, 2, 0, 0}, {HOUR, 2 * DAY, 1, 23, 0}, {60, 2 * DAY - 60, 0, 46, 118},
            {DAY - 60, DAY + 60, 0, 0, 2}, {DAY - HOUR, DAY + HOUR, 0, 2, 0}, {DAY - HOUR - 60, DAY + HOUR + 60, 0, 2, 2},
            {DAY - HOUR - 60, 2 * DAY + HOUR + 60, 1, 2, 2}, {HOUR, 2 * HOUR, 0, 1, 0}, {HOUR, 2 * HOUR - 60, 0, 0, 59},
            {HOUR + 60, 2 * HOUR, 0, 0, 59}, {HOUR + 60, 3 * HOUR, 0, 1, 59}, {HOUR, 3 * HOUR - 60, 0, 1, 59},
            {60, 2 * HOUR - 60, 0, 0, 118}, {HOUR - 60, HOUR + 60, 0, 0, 2}, {HOUR - 60, 2 * HOUR + 60, 0, 1, 2},
            {0, 0, 0, 0, 0}, {60, 60, 0, 0, 0}, {DAY, DAY, 0, 0, 0}, {60, 120, 0, 0, 1}, {0, HOUR, 0, 1, 0}};
        for (int[] w : windows) {
            Store x = new Store();
            T.is("from " + w[0] + " to " + w[1], () -> x.parts(w[0], w[1]), w[2] + w[3] + w[4]);
            T.is("the days of " + w[0] + " to " + w[1], () -> keptAlone(DAYS).isKnown(w[0], w[1]), w[3] + w[4] == 0);
            T.is("the hours of " + w[0] + " to " + w[1], () -> keptAlone(HOURS).isKnown(w[0], w[1]), w[2] + w[4] == 0);
            T.is("the minutes of " + w[0] + " to " + w[1], () -> keptAlone(MINUTES).isKnown(w[0], w[1]), w[2] + w[3] == 0);
        }
    }

    /** Two days and more have expired in all tiers but this one. */
    private static Store keptAlone(int tier) {
        Store x = new Store();
        x.setRetention(tier, LONGEST);
        advance(x, 10000000);
        return x;
    }

    private static void aWindowIsKnown() {
        T.test("Windows", "(a part ends at the horizon of its tier or before).");
        for (int tier = MINUTES; tier <= DAYS; tier++) {
            int t = tier;
            int begin = LENGTH[t];
            int end = 2 * LENGTH[t];
            Store x = keepAll(of(0, COUNTER));
            putAt(x, 0, end - 1, 5);
            x.setRetention(t, LEAST_RETENTION[t]);
            advance(x, LEAST_RETENTION[t] + end - 1 - x.clock());
            T.is("the horizon a second before its end, tier " + t, () -> x.isKnown(begin, end), true);
            T.is("total, tier " + t, () -> x.total(0, begin, end), 5L);
            T.is("increase, tier " + t, () -> x.increase(0, begin, end), 0L);
            T.is("ratePerHour, tier " + t, () -> x.ratePerHour(0, begin, end), 0.0);
            T.is("the part before, tier " + t, () -> x.isKnown(0, begin), false);
            x.advance(1);
            T.is("the horizon at its end, tier " + t, () -> x.isKnown(begin, end), false);
            T.refuses("total then, tier " + t, x, s -> s.total(0, begin, end), STATE);
            T.refuses("increase then, tier " + t, x, s -> s.increase(0, begin, end), STATE);
            T.refuses("ratePerHour then, tier " + t, x, s -> s.ratePerHour(0, begin, end), STATE);
            T.is("the part after, tier " + t, () -> x.isKnown(end, end + LENGTH[t]), true);
            x.advance(1);
            T.is("the horizon a second after its end, tier " + t, () -> x.isKnown(begin, end), false);
        }
    }

    private static void noneOfThesePartsHasExpired() {
        T.test("Windows", "A window is known if none of these parts has expired");
        Store x = at(86400 + 120);
        T.is("the first of three minutes has", () -> x.isKnown(60, 240), false);
        T.is("without it", () -> x.isKnown(120, 240), true);
        T.is("a minute before an hour", () -> at(86400 + 3600).isKnown(3540, 7200), false);
        T.is("a minute before an hour, a second earlier", () -> at(86400 + 3599).isKnown(3540, 7200), true);
        T.is("a minute after an hour", () -> at(86400 + 3660).isKnown(0, 3660), false);
        T.is("a minute after an hour, a second earlier", () -> at(86400 + 3659).isKnown(0, 3660), true);
        T.is("an hour before a day", () -> at(864000 + 86400).isKnown(82800, 172800), false);
        T.is("an hour before a day, a second earlier", () -> at(864000 + 86399).isKnown(82800, 172800), true);
        T.is("an hour after a day", () -> at(864000 + 90000).isKnown(0, 90000), false);
        T.is("an hour after a day, a second earlier", () -> at(864000 + 89999).isKnown(0, 90000), true);
        T.is("the first of two days", () -> at(8640000 + 86400).isKnown(0, 172800), false);
        T.is("the first of two days, a second earlier", () -> at(8640000 + 86399).isKnown(0, 172800), true);
        T.is("a minute after a day", () -> at(86400 + 86460).isKnown(0, 86460), false);
        T.is("a minute after a day, a second earlier", () -> at(86400 + 86459).isKnown(0, 86460), true);
        Store y = at(20000000);
        T.is("no part has", () -> y.isKnown(86400, 86400), true);
        T.is("parts that are to come have not", () -> y.isKnown(20044800, LATEST), true);
    }

    private static void partsWithoutARollupHaveNoPoints() {
        T.test("Windows", "Parts without a rollup have no points.");
        Store x = at(90000);
        T.is("no points at all", () -> x.total(1, 0, LATEST) + " " + x.increase(1, 0, LATEST) + " "
                + x.ratePerHour(1, 0, LATEST), "0 0 0.0");
        x.put(1, 86459, 5);
        x.put(1, 86580, 3);
        x.put(1, 86699, 7);
        T.is("between two minutes", () -> x.total(1, 86460, 86580) + " " + x.increase(1, 86460, 86580), "0 0");
        T.is("from minute to minute over those without", () -> x.total(1, 86400, 86700) + " " + x.increase(1, 86400, 86700),
                "15 7");
        x.erase(1, 86580);
        T.is("one less", () -> x.total(1, 86400, 86700) + " " + x.increase(1, 86400, 86700), "12 2");
    }
}
