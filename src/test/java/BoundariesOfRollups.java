import java.util.Map;

/** The boundary cases of promises 14 to 22. */
final class BoundariesOfRollups extends Boundary {
    private BoundariesOfRollups() {
    }

    static void all() {
        promise14WhetherThereIsARollup();
        promise14WhetherItIsKept();
        promises15To21WhatARollupTells();
        promises15To21ThereIsNoRollup();
        promise16TheSumOfTheValues();
        promise17TheSumAsADouble();
        promise22TheLastValueOfARollup();
        promise22Zero();
        promise22Previous();
        promise22LinearBetweenTheNearestTwo();
        promise22LinearIsRoundedTowardsZero();
        promise22LinearFarApart();
        promise22RuleIsNoneOfThese();
        promise22TheRuleFindsNoneThatItNeeds();
        promise22AfterExpiry();
    }

    /** A rollup of this tier from two lengths to three, points just outside it; the clock at three lengths. */
    private static Store threeRollups(int tier) {
        int begin = 2 * LENGTH[tier];
        Store x = keepAll(at(0));
        putAt(x, 0, begin - 1, 1000);
        putAt(x, 0, begin, 7);
        putAt(x, 0, begin + 1, -3);
        putAt(x, 0, begin + LENGTH[tier] - 1, 2);
        putAt(x, 0, begin + LENGTH[tier], -1000);
        return x;
    }

    /** The same rollup without the points outside it. */
    private static Store oneRollup(int tier) {
        int begin = 2 * LENGTH[tier];
        Store x = keepAll(at(0));
        putAt(x, 0, begin, 7);
        putAt(x, 0, begin + 1, -3);
        putAt(x, 0, begin + LENGTH[tier] - 1, 2);
        return x;
    }

    // ---- Promise 14: hasRollup

    private static void promise14WhetherThereIsARollup() {
        T.test("Promise 14", "Tells whether there is a rollup.");
        for (int tier = MINUTES; tier <= DAYS; tier++) {
            int t = tier;
            int begin = 2 * LENGTH[t];
            int end = 3 * LENGTH[t];
            Store x = oneRollup(t);
            T.is("a second before its begin, tier " + t, () -> x.hasRollup(0, t, begin - 1), false);
            T.is("its begin, tier " + t, () -> x.hasRollup(0, t, begin), true);
            T.is("its last second, tier " + t, () -> x.hasRollup(0, t, end - 1), true);
            T.is("its end, tier " + t, () -> x.hasRollup(0, t, end), false);
            T.is("time 0, tier " + t, () -> x.hasRollup(0, t, 0), false);
            T.is("the greatest time, tier " + t, () -> x.hasRollup(0, t, MAX), false);
            T.is("the other series, tier " + t, () -> x.hasRollup(1, t, begin), false);
        }
    }

    private static void promise14WhetherItIsKept() {
        T.test("Promise 14", "Returns whether it is kept.");
        for (int tier = MINUTES; tier <= DAYS; tier++) {
            int t = tier;
            int begin = 2 * LENGTH[t];
            int end = 3 * LENGTH[t];
            Store x = threeRollups(t);
            x.setRetention(t, LEAST_RETENTION[t]);
            advance(x, LEAST_RETENTION[t] + end - 1 - x.clock());
            T.is("the horizon a second before its end, tier " + t, () -> x.hasRollup(0, t, begin), true);
            T.is("its neighbours then, tier " + t, () -> x.hasRollup(0, t, begin - 1) + " " + x.hasRollup(0, t, end), "false true");
            x.advance(1);
            T.is("the horizon at its end, tier " + t, () -> x.hasRollup(0, t, begin), false);
            T.is("its last second too, tier " + t, () -> x.hasRollup(0, t, end - 1), false);
            T.is("the next one, tier " + t, () -> x.hasRollup(0, t, end), true);
        }
        Store y = at(10000);
        y.put(0, 9000, 1);
        y.erase(0, 9000);
        T.is("erased", () -> y.hasRollup(0, MINUTES, 9000) + " " + y.hasRollup(0, HOURS, 9000) + " " + y.hasRollup(0, DAYS, 9000),
                "false false false");
    }

    // ---- Promises 15 to 21

    private static final String[] SENTENCES = {"Returns how many points a rollup tells of.", "Returns the sum of a rollup.",
        "Returns the average of a rollup", "Returns the least value of a rollup.", "Returns the greatest value of a rollup.",
        "Returns the first value of a rollup.", "Returns the last value of a rollup."};
    private static final String[] RETURNS = {"Returns how many.", "Returns the sum of the values.", "Returns the average.",
        "Returns the value.", "Returns the value.", "Returns the value.", "Returns the value."};
    private static final String[] WITHIN = {"3", "6", "2.0", "-3", "7", "7", "2"};
    private static final String[] BEFORE = {"1", "1000", "1000.0", "1000", "1000", "1000", "1000"};
    private static final String[] AFTER = {"1", "-1000", "-1000.0", "-1000", "-1000", "-1000", "-1000"};

    private static void promises15To21WhatARollupTells() {
        for (Map.Entry<Integer, RollupCall> entry : callsThatTell().entrySet()) {
            int promise = entry.getKey();
            int which = promise - 15;
            RollupCall call = entry.getValue();
            T.test("Promise " + promise, SENTENCES[which], RETURNS[which]);
            for (int tier = MINUTES; tier <= DAYS; tier++) {
                int t = tier;
                int begin = 2 * LENGTH[t];
                int end = 3 * LENGTH[t];
                Store x = threeRollups(t);
                T.is("a second before its begin, tier " + t, () -> call.on(x, t, begin - 1), BEFORE[which]);
                T.is("its begin, tier " + t, () -> call.on(x, t, begin), WITHIN[which]);
                T.is("its last second, tier " + t, () -> call.on(x, t, end - 1), WITHIN[which]);
                T.is("its end, tier " + t, () -> call.on(x, t, end), AFTER[which]);
                T.is("the last second of the one after, tier " + t, () -> call.on(x, t, end + LENGTH[t] - 1), AFTER[which]);
            }
        }
    }

    private static void promises15To21ThereIsNoRollup() {
        for (Map.Entry<Integer, RollupCall> entry : callsThatTell().entrySet()) {
            int promise = entry.getKey();
            RollupCall call = entry.getValue();
            T.test("Promise " + promise, "Throws IllegalStateException if there is no rollup");
            for (int tier = MINUTES; tier <= DAYS; tier++) {
                int t = tier;
                int begin = 2 * LENGTH[t];
                int end = 3 * LENGTH[t];
                T.refuses("an empty series, tier " + t, at(begin), s -> call.on(s, t, begin), STATE);
                Store x = oneRollup(t);
                T.refuses("a second before its begin, tier " + t, x, s -> call.on(s, t, begin - 1), STATE);
                T.refuses("its end, tier " + t, x, s -> call.on(s, t, end), STATE);
                T.refuses("time 0, tier " + t, x, s -> call.on(s, t, 0), STATE);
                T.refuses("the greatest time, tier " + t, x, s -> call.on(s, t, MAX), STATE);
                x.setRetention(t, LEAST_RETENTION[t]);
                advance(x, LEAST_RETENTION[t] + end - 1 - x.clock());
                T.is("the horizon a second before its end, tier " + t, () -> call.on(x, t, begin), WITHIN[promise - 15]);
                x.advance(1);
                T.refuses("expired, tier " + t, x, s -> call.on(s, t, begin), STATE);
                Store y = at(begin);
                y.put(0, begin, 1);
                y.erase(0, begin);
                T.refuses("erased, tier " + t, y, s -> call.on(s, t, begin), STATE);
            }
        }
    }

    private static void promise16TheSumOfTheValues() {
        T.test("Promise 16", "Returns the sum of the values.");
        Store x = at(10000);
        fill(x, 0, 9000, 1000000);
        fill(x, 1, 9000, 0);
        T.is("100 of the greatest", () -> x.sum(0, DAYS, 9000), 100000000L);
        T.is("100 of the least of a counter", () -> x.sum(1, DAYS, 9000), 0L);
        fill(x, 0, 9000, -1000000);
        T.is("100 of the least of a gauge", () -> x.sum(0, DAYS, 9000), -100000000L);
        x.put(0, 9000, 1000000);
        T.is("one of them the greatest", () -> x.sum(0, DAYS, 9000), -98000000L);
    }

    private static void promise17TheSumAsADouble() {
        T.test("Promise 17", "the sum as a double, divided by how many points there are.");
        Store x = at(10000);
        x.put(0, 9000, 5);
        T.is("one point", () -> x.average(0, MINUTES, 9000), 5.0);
        x.put(0, 9001, 0);
        T.is("a half", () -> x.average(0, MINUTES, 9000), 2.5);
        x.put(0, 9002, 5);
        T.is("no end of digits", () -> x.average(0, MINUTES, 9000), 10.0 / 3.0);
        x.put(0, 9000, -1);
        x.put(0, 9001, -1);
        x.put(0, 9002, 0);
        T.is("below 0, and not rounded", () -> x.average(0, MINUTES, 9000), -2.0 / 3.0);
        x.put(0, 9002, 2);
        T.is("0", () -> x.average(0, MINUTES, 9000), 0.0);
        fill(x, 1, 9000, 1000000);
        T.is("100 of the greatest", () -> x.average(1, HOURS, 9000), 1000000.0);
        x.put(1, 9000, 999999);
        T.is("one of them less", () -> x.average(1, HOURS, 9000), 99999999.0 / 100.0);
    }

    // ---- Promise 22: filled

    private static void promise22TheLastValueOfARollup() {
        T.test("Promise 22", "Returns the last value of a rollup", "Returns the value.");
        for (int tier = MINUTES; tier <= DAYS; tier++) {
            int t = tier;
            int begin = 2 * LENGTH[t];
            Store x = threeRollups(t);
            for (int rule = ZERO; rule <= LINEAR; rule++) {
                int r = rule;
                String what = ", tier " + t + ", rule " + r;
                T.is("a second before its begin" + what, () -> x.filled(0, t, begin - 1, r), 1000);
                T.is("its begin" + what, () -> x.filled(0, t, begin, r), 2);
                T.is("its last second" + what, () -> x.filled(0, t, begin + LENGTH[t] - 1, r), 2);
                T.is("its end" + what, () -> x.filled(0, t, begin + LENGTH[t], r), -1000);
                T.is("the only one" + what, () -> oneRollup(t).filled(0, t, begin, r), 2);
            }
        }
    }

    private static void promise22Zero() {
        T.test("Promise 22", "or what a rule tells where there is none. ZERO: 0.");
        for (int tier = MINUTES; tier <= DAYS; tier++) {
            int t = tier;
            int begin = 2 * LENGTH[t];
            int end = 3 * LENGTH[t];
            Store x = oneRollup(t);
            T.is("an empty series, tier " + t, () -> x.filled(1, t, begin, ZERO), 0);
            T.is("a second before its begin, tier " + t, () -> x.filled(0, t, begin - 1, ZERO), 0);
            T.is("its end, tier " + t, () -> x.filled(0, t, end, ZERO), 0);
            T.is("time 0, tier " + t, () -> x.filled(0, t, 0, ZERO), 0);
            T.is("the greatest time, tier " + t, () -> x.filled(0, t, MAX, ZERO), 0);
        }
    }

    private static void promise22Previous() {
        T.test("Promise 22", "PREVIOUS: the last value of the nearest earlier rollup of this tier.");
        for (int tier = MINUTES; tier <= DAYS; tier++) {
            int t = tier;
            int length = LENGTH[t];
            Store x = keepAll(at(0));
            putAt(x, 0, 2 * length, 5);
            putAt(x, 0, 3 * length - 1, 6);
            putAt(x, 0, 5 * length, 7);
            putAt(x, 0, 6 * length - 1, 8);
            putAt(x, 0, 9 * length, 9);
            T.refuses("before the first, tier " + t, x, s -> s.filled(0, t, 2 * length - 1, PREVIOUS), STATE);
            T.is("just after the first, tier " + t, () -> x.filled(0, t, 3 * length, PREVIOUS), 6);
            T.is("just before the second, tier " + t, () -> x.filled(0, t, 5 * length - 1, PREVIOUS), 6);
            T.is("just after the second, tier " + t, () -> x.filled(0, t, 6 * length, PREVIOUS), 8);
            T.is("just before the third, tier " + t, () -> x.filled(0, t, 9 * length - 1, PREVIOUS), 8);
            T.is("just after the last, tier " + t, () -> x.filled(0, t, 10 * length, PREVIOUS), 9);
            T.is("the greatest time, tier " + t, () -> x.filled(0, t, MAX, PREVIOUS), 9);
        }
        Store y = at(90000);
        y.put(0, 86400, 5);
        T.is("the minute's stretch is later", () -> y.filled(0, MINUTES, 90000, PREVIOUS), 5);
        T.is("so is the hour's", () -> y.filled(0, HOURS, 90000, PREVIOUS), 5);
        y.put(0, 86400, 0);
        T.is("a last value of 0", () -> y.filled(0, HOURS, 90000, PREVIOUS), 0);
    }

    private static void promise22LinearBetweenTheNearestTwo() {
        T.test("Promise 22", "LINEAR: of the nearest earlier and the nearest later rollup of this tier, the last value of the "
                + "earlier one, and the difference of their last values (later less earlier) times the seconds from the "
                + "beginning of the earlier one to that of the stretch in which time is, divided by the seconds between the "
                + "beginnings of both");
        for (int tier = MINUTES; tier <= DAYS; tier++) {
            int t = tier;
            int length = LENGTH[t];
            Store x = keepAll(at(0));
            putAt(x, 0, length, -900);
            // The points stand in the last seconds: the beginnings of the rollups count, not the points' times.
            putAt(x, 0, 3 * length - 1, 100);
            putAt(x, 0, 7 * length - 1, 500);
            putAt(x, 0, 8 * length, 900);
            int[] due = {-400, 100, 200, 300, 400, 500};
            for (int stretch = 3; stretch <= 5; stretch++) {
                int value = due[stretch - 1];
                int begin = stretch * length;
                T.is("the first second of " + stretch + ", tier " + t, () -> x.filled(0, t, begin, LINEAR), value);
                T.is("the last second of " + stretch + ", tier " + t, () -> x.filled(0, t, begin + length - 1, LINEAR), value);
            }
            T.is("both are just beside it, tier " + t, () -> x.filled(0, t, 7 * length, LINEAR), 700);
            T.is("the earlier one itself, tier " + t, () -> x.filled(0, t, 2 * length, LINEAR), 100);
            T.is("the later one itself, tier " + t, () -> x.filled(0, t, 6 * length, LINEAR), 500);
        }
        Store y = at(10000);
        y.put(0, 9000, 5);
        y.put(0, 9240, 5);
        T.is("no difference", () -> y.filled(0, MINUTES, 9060, LINEAR) + " " + y.filled(0, MINUTES, 9180, LINEAR), "5 5");
    }

    private static void promise22LinearIsRoundedTowardsZero() {
        T.test("Promise 22", "(this quotient by itself is rounded towards zero), together.");
        // The last values of the minutes 9000 and 9180, and what the minutes 9060 and 9120 between them are told to be.
        int[][] rows = {{0, 1, 0, 0}, {0, 2, 0, 1}, {0, 3, 1, 2}, {0, -1, 0, 0}, {0, -2, 0, -1}, {0, -3, -1, -2},
            {10, 11, 10, 10}, {10, 9, 10, 10}, {10, 8, 10, 9}, {-10, -9, -10, -10}, {-10, -11, -10, -10}, {-10, -8, -10, -9},
            {-1, 1, -1, 0}, {1, -1, 1, 0}, {-5, 0, -4, -2}, {5, 0, 4, 2}, {-1000000, 1000000, -333334, 333333},
            {1000000, -1000000, 333334, -333333}};
        for (int[] row : rows) {
            Store x = at(10000);
            x.put(0, 9000, row[0]);
            x.put(0, 9180, row[1]);
            T.is("a third of the way from " + row[0] + " to " + row[1], () -> x.filled(0, MINUTES, 9060, LINEAR), row[2]);
            T.is("two thirds of the way from " + row[0] + " to " + row[1], () -> x.filled(0, MINUTES, 9120, LINEAR), row[3]);
        }
    }

    private static void promise22LinearFarApart() {
        T.test("Promise 22", "times the seconds from the beginning of the earlier one");
        for (int sign = -1; sign <= 1; sign += 2) {
            int value = sign * 1000000;
            Store x = keepAll(at(0));
            x.put(0, 0, -value);
            // Nearly as far apart as the longest retention lets two rollups be.
            advance(x, 99000000);
            int later = 99000000 - 99000000 % DAY;
            x.put(0, 99000000, value);
            for (int begin : new int[] {DAY, 500 * DAY, later - DAY}) {
                long due = -value + 2L * value * begin / later;
                T.is("day " + begin / DAY + " to " + value, () -> x.filled(0, DAYS, begin, LINEAR), due);
            }
        }
    }

    private static void promise22RuleIsNoneOfThese() {
        T.test("Promise 22", "rule: ZERO, PREVIOUS or LINEAR", "Throws IllegalArgumentException if tier or rule is none of these");
        Store x = at(10000);
        x.put(0, 9000, 5);
        x.put(0, 9120, 7);
        for (int rule : new int[] {-1, 3, MIN, MAX}) {
            T.refuses("where there is a rollup, rule " + rule, x, s -> s.filled(0, MINUTES, 9000, rule), ARGUMENT);
            T.refuses("where there is none, rule " + rule, x, s -> s.filled(0, MINUTES, 9060, rule), ARGUMENT);
            T.refuses("in an empty series, rule " + rule, x, s -> s.filled(1, MINUTES, 9060, rule), ARGUMENT);
        }
        T.is("ZERO", () -> x.filled(0, MINUTES, 9060, 0), 0);
        T.is("PREVIOUS", () -> x.filled(0, MINUTES, 9060, 1), 5);
        T.is("LINEAR", () -> x.filled(0, MINUTES, 9060, 2), 6);
    }

    private static void promise22TheRuleFindsNoneThatItNeeds() {
        T.test("Promise 22", "Throws IllegalStateException if there is no rollup, and the rule finds none that it needs");
        for (int tier = MINUTES; tier <= DAYS; tier++) {
            int t = tier;
            int begin = 2 * LENGTH[t];
            int end = 3 * LENGTH[t];
            Store x = oneRollup(t);
            for (int rule : new int[] {PREVIOUS, LINEAR}) {
                String what = ", tier " + t + ", rule " + rule;
                T.refuses("an empty series" + what, x, s -> s.filled(1, t, begin, rule), STATE);
                T.refuses("a second before the only one" + what, x, s -> s.filled(0, t, begin - 1, rule), STATE);
                T.refuses("time 0" + what, x, s -> s.filled(0, t, 0, rule), STATE);
                Object after = rule == PREVIOUS ? 2 : STATE;
                T.refuses("the end of the only one" + what, x, s -> s.filled(0, t, end, rule), after);
                T.refuses("the greatest time" + what, x, s -> s.filled(0, t, MAX, rule), after);
            }
        }
        Store y = at(90000);
        y.put(0, 86400, 5);
        y.put(0, 86520, 7);
        T.refuses("a later one of the finer tier alone", y, s -> s.filled(0, HOURS, 90000, LINEAR), STATE);
        T.refuses("an earlier one of the finer tier alone", y, s -> s.filled(0, DAYS, 86399, PREVIOUS), STATE);
        T.is("both of the finer tier", () -> y.filled(0, MINUTES, 86460, LINEAR), 6);
        y.erase(0, 86520);
        T.refuses("the later one was erased", y, s -> s.filled(0, MINUTES, 86460, LINEAR), STATE);
        y.put(0, 86520, 7);
        y.erase(0, 86400);
        T.refuses("the earlier one was erased", y, s -> s.filled(0, MINUTES, 86460, PREVIOUS), STATE);
        T.refuses("the earlier one was erased, linear", y, s -> s.filled(0, MINUTES, 86460, LINEAR), STATE);
        T.is("zero needs none", () -> y.filled(0, MINUTES, 86460, ZERO), 0);
    }

    private static void promise22AfterExpiry() {
        T.test("Promise 22", "what a rule tells where there is none.");
        for (int tier = MINUTES; tier <= DAYS; tier++) {
            int t = tier;
            int length = LENGTH[t];
            Store x = keepAll(at(0));
            putAt(x, 0, length, 4);
            putAt(x, 0, 3 * length, 8);
            x.setRetention(t, LEAST_RETENTION[t]);
            advance(x, LEAST_RETENTION[t] + 2 * length - 1 - x.clock());
            T.is("the earlier one has just not expired, tier " + t, () -> x.filled(0, t, length, ZERO) + " "
                    + x.filled(0, t, 2 * length, PREVIOUS) + " " + x.filled(0, t, 2 * length, LINEAR), "4 4 6");
            x.advance(1);
            T.is("where it was, tier " + t, () -> x.filled(0, t, length, ZERO), 0);
            T.refuses("previous where it was, tier " + t, x, s -> s.filled(0, t, length, PREVIOUS), STATE);
            T.refuses("previous after it, tier " + t, x, s -> s.filled(0, t, 2 * length, PREVIOUS), STATE);
            T.refuses("linear after it, tier " + t, x, s -> s.filled(0, t, 2 * length, LINEAR), STATE);
            T.is("the later one, tier " + t, () -> x.filled(0, t, 4 * length, PREVIOUS), 8);
        }
    }
}
