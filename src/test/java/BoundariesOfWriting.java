/** The boundary cases of promises 1, 2, 3 and 5. */
final class BoundariesOfWriting extends Boundary {
    private BoundariesOfWriting() {
    }

    static void all() {
        promise1NoSeries();
        promise1TheClockIsAt0();
        promise2WithoutPoints();
        promise2GaugeOrCounter();
        promise2ItsNumber();
        promise2ThereAre4Series();
        promise3WritesAPoint();
        promise3OneAtTheSameTimeIsReplaced();
        promise3Time0UpToTheClock();
        promise3TheValueIsOutOfRange();
        promise3WhetherAPointWasReplaced();
        promise3TimeIsTooOld();
        promise3TheSeriesKeeps100Points();
        promise5ErasesAPoint();
        promise5ItsTime();
        promise5ItsValue();
        promise5ItKeepsNoPointAtThisTime();
        promise5TimeIsTooOld();
    }

    // ---- Promise 1: A new object

    private static void promise1NoSeries() {
        T.test("Promise 1", "No series");
        T.is("none", () -> new Store().series(), 0);
        T.refuses("not even the first", new Store(), s -> s.rows(0, POINTS), BOUNDS);
        Store x = at(0);
        T.is("none in another object", () -> new Store().series() + " " + x.series(), "0 2");
    }

    private static void promise1TheClockIsAt0() {
        T.test("Promise 1", "the clock is at 0.");
        T.is("at 0", () -> new Store().clock(), 0);
        Store x = at(0);
        T.is("time 0 has come", () -> x.put(0, 0, 1), false);
        T.refuses("time 1 has not", x, s -> s.put(0, 1, 1), ARGUMENT);
    }

    // ---- Promise 2: addSeries

    private static void promise2WithoutPoints() {
        T.test("Promise 2", "Adds a series without points.");
        Store x = of(100000, GAUGE, COUNTER);
        x.put(0, 99000, 1);
        x.put(1, 99000, 1);
        x.addSeries(GAUGE);
        T.is("no rows", () -> allRows(x, 2), "0 0 0 0");
        x.put(2, 99001, 1);
        x.addSeries(COUNTER);
        T.is("no rows, the fourth", () -> allRows(x, 3), "0 0 0 0");
        T.is("nothing to sum", () -> x.total(3, 0, LATEST), 0L);
        T.is("the others keep theirs", () -> allRows(x, 0) + "; " + allRows(x, 1) + "; " + allRows(x, 2),
                "1 1 1 1; 1 1 1 1; 1 1 1 1");
    }

    private static void promise2GaugeOrCounter() {
        T.test("Promise 2", "kind: GAUGE or COUNTER", "Throws IllegalArgumentException if there is no such kind");
        Store x = new Store();
        for (int kind : new int[] {-1, 2, MIN, MAX}) {
            T.refuses("kind " + kind, x, s -> s.addSeries(kind), ARGUMENT);
        }
        T.is("the greatest kind", () -> x.addSeries(COUNTER), 0);
        T.is("the least kind", () -> x.addSeries(GAUGE), 1);
        T.is("a counter takes no -1", () -> x.put(0, 0, -1), ARGUMENT);
        T.is("a gauge does", () -> x.put(1, 0, -1), false);
    }

    private static void promise2ItsNumber() {
        T.test("Promise 2", "Returns its number.");
        Store x = new Store();
        for (int number = 0; number < 4; number++) {
            T.is("number " + number, () -> x.addSeries(GAUGE), number);
        }
        Store y = new Store();
        T.refuses("no kind", y, s -> s.addSeries(2), ARGUMENT);
        T.is("a refused one takes no number", () -> y.addSeries(COUNTER), 0);
    }

    private static void promise2ThereAre4Series() {
        T.test("Promise 2", "Throws IllegalStateException if there are 4 series");
        Store x = of(0, GAUGE, GAUGE, GAUGE);
        T.is("the last that is taken", () -> x.addSeries(COUNTER), 3);
        T.refuses("the first that is refused, a gauge", x, s -> s.addSeries(GAUGE), STATE);
        T.refuses("the first that is refused, a counter", x, s -> s.addSeries(COUNTER), STATE);
    }

    // ---- Promise 3: put

    private static void promise3WritesAPoint() {
        T.test("Promise 3", "Writes a point");
        Store x = at(100000);
        x.put(0, 99000, -5);
        T.is("its value", () -> x.valueAt(0, 99000), -5);
        T.is("none a second before", () -> x.valueAt(0, 98999), STATE);
        T.is("none a second after", () -> x.valueAt(0, 99001), STATE);
        T.is("a row of each tier", () -> allRows(x, 0), "1 1 1 1");
        T.is("none in the other series", () -> allRows(x, 1), "0 0 0 0");
        x.put(0, 98999, 1);
        x.put(0, 100000, 2);
        x.put(0, 96400, 3);
        T.is("before the first, after the last, in between", () -> times(x, 0, POINTS), "96400 98999 99000 100000");
    }

    private static void promise3OneAtTheSameTimeIsReplaced() {
        T.test("Promise 3", "one at the same time is replaced.");
        Store x = at(100000);
        x.putMany(0, 99000, 10, 1, 10, 3);
        x.put(0, 99001, -7);
        T.is("no point more", () -> times(x, 0, POINTS), "99000 99001 99002");
        T.is("only its value", () -> x.valueAt(0, 99000) + " " + x.valueAt(0, 99001) + " " + x.valueAt(0, 99002), "10 -7 30");
        T.is("its minute", () -> x.count(0, MINUTES, 99000) + " " + x.sum(0, MINUTES, 99000), "3 33");
        T.is("its hour", () -> x.count(0, HOURS, 99000) + " " + x.sum(0, HOURS, 99000), "3 33");
        T.is("its day", () -> x.count(0, DAYS, 99000) + " " + x.sum(0, DAYS, 99000), "3 33");
        x.put(0, 99000, 1);
        x.put(0, 99002, 2);
        T.is("the first one and the last one", () -> x.first(0, DAYS, 99000) + " " + x.last(0, DAYS, 99000), "1 2");
    }

    private static void promise3Time0UpToTheClock() {
        T.test("Promise 3", "time: 0 up to the clock", "Throws IllegalArgumentException if time is below 0 or later than the clock");
        for (int clock : new int[] {0, 1, 3600}) {
            Store x = at(clock);
            T.refuses("below 0, the clock at " + clock, x, s -> s.put(0, -1, 1), ARGUMENT);
            T.refuses("later than the clock at " + clock, x, s -> s.put(0, clock + 1, 1), ARGUMENT);
            T.is("0, the clock at " + clock, () -> x.put(0, 0, 1), false);
            T.is("the clock at " + clock, () -> x.put(0, clock, 1), clock == 0);
        }
        Store x = at(100000);
        for (int time : new int[] {-1, MIN, 100001, MAX}) {
            T.refuses("time " + time, x, s -> s.put(0, time, 1), ARGUMENT);
        }
        T.is("at the clock", () -> x.put(0, 100000, 1), false);
    }

    private static void promise3TheValueIsOutOfRange() {
        T.test("Promise 3", "value: the value", "value is out of range for the series");
        Store x = at(100000);
        x.put(0, 99000, 7);
        x.put(1, 99000, 7);
        for (int value : new int[] {-1000001, 1000001, MIN, MAX}) {
            T.refuses("of a gauge, " + value, x, s -> s.put(0, 99001, value), ARGUMENT);
            T.refuses("of a gauge, replaced, " + value, x, s -> s.put(0, 99000, value), ARGUMENT);
        }
        for (int value : new int[] {-1, -1000000, 1000001, MIN, MAX}) {
            T.refuses("of a counter, " + value, x, s -> s.put(1, 99001, value), ARGUMENT);
            T.refuses("of a counter, replaced, " + value, x, s -> s.put(1, 99000, value), ARGUMENT);
        }
        for (int value : new int[] {-1000000, -1, 0, 1000000}) {
            T.is("of a gauge, " + value, () -> x.put(0, 99000, value) + " " + x.valueAt(0, 99000), "true " + value);
        }
        for (int value : new int[] {0, 1, 1000000}) {
            T.is("of a counter, " + value, () -> x.put(1, 99000, value) + " " + x.valueAt(1, 99000), "true " + value);
        }
    }

    private static void promise3WhetherAPointWasReplaced() {
        T.test("Promise 3", "Returns whether a point was replaced.");
        Store x = at(100000);
        T.is("a new one", () -> x.put(0, 99000, 5), false);
        T.is("replaced", () -> x.put(0, 99000, 6), true);
        T.is("replaced by the same value", () -> x.put(0, 99000, 6), true);
        T.is("replaced by 0", () -> x.put(0, 99000, 0), true);
        T.is("a second before", () -> x.put(0, 98999, 5), false);
        T.is("a second after", () -> x.put(0, 99001, 5), false);
        T.is("of another series", () -> x.put(1, 99000, 5), false);
        x.erase(0, 99000);
        T.is("after it was erased", () -> x.put(0, 99000, 5), false);
        T.is("at the clock", () -> x.put(0, 100000, 5) + " " + x.put(0, 100000, 5), "false true");
        T.is("at the oldest time", () -> x.put(0, 96400, 5) + " " + x.put(0, 96400, 5), "false true");
    }

    private static void promise3TimeIsTooOld() {
        T.test("Promise 3", "Throws IllegalStateException if time is too old");
        Store x = at(100000);
        T.is("just not", () -> x.put(0, 96400, 1), false);
        T.refuses("just so", x, s -> s.put(0, 96399, 1), STATE);
        T.refuses("far", x, s -> s.put(0, 0, 1), STATE);
        x.advance(1);
        T.refuses("a point that is kept", x, s -> s.put(0, 96400, 2), STATE);
        T.is("the next second", () -> x.put(0, 96401, 2), false);
        x.setRetention(POINTS, LONGEST);
        T.refuses("a longer retention does not help", x, s -> s.put(0, 96400, 2), STATE);
    }

    private static void promise3TheSeriesKeeps100Points() {
        T.test("Promise 3", "or the series keeps 100 points, none of them at this time");
        Store x = at(100000);
        fill(x, 0, 97000, 1);
        x.erase(0, 97099);
        T.is("the 100th", () -> x.put(0, 97099, 1), false);
        for (int time : new int[] {96999, 97100, 96400, 100000}) {
            T.refuses("the 101st at " + time, x, s -> s.put(0, time, 1), STATE);
        }
        for (int time : new int[] {97000, 97050, 97099}) {
            T.is("one of them at " + time, () -> x.put(0, time, 2), true);
        }
        T.is("the other series does not", () -> x.put(1, 97100, 1), false);
        x.erase(0, 97050);
        T.is("99 after one was erased", () -> x.put(0, 97100, 3), false);
        T.refuses("100 again", x, s -> s.put(0, 97050, 3), STATE);
        x.advance(97000 + 7200 - 100000);
        T.refuses("none has expired yet", x, s -> s.put(0, 104200, 3), STATE);
        x.advance(1);
        T.is("99 after one expired", () -> x.put(0, 104201, 3), false);
        T.refuses("100 once more", x, s -> s.put(0, 104200, 3), STATE);
        x.setRetention(POINTS, LONGEST);
        x.advance(50000);
        T.refuses("they are kept longer", x, s -> s.put(0, 154201, 3), STATE);
        x.setRetention(POINTS, 7200);
        T.is("all have expired", () -> x.rows(0, POINTS) + " " + x.put(0, 154201, 3), "0 false");
    }

    // ---- Promise 5: erase

    private static void promise5ErasesAPoint() {
        T.test("Promise 5", "Erases a point.");
        Store x = at(100000);
        x.putMany(0, 99000, 1, 30, 1, 3);
        x.put(1, 99030, 9);
        x.erase(0, 99030);
        T.is("it is gone", () -> times(x, 0, POINTS), "99000 99060");
        T.is("its minute tells of the other", () -> x.count(0, MINUTES, 99030) + " " + x.last(0, MINUTES, 99030), "1 1");
        T.is("the other series keeps its own", () -> x.valueAt(1, 99030), 9);
        x.erase(0, 99000);
        T.is("the first one", () -> times(x, 0, POINTS) + "; " + times(x, 0, MINUTES), "99060; 99060");
        x.erase(0, 99060);
        T.is("the only one", () -> allRows(x, 0), "0 0 0 0");
        Store y = at(100000);
        fill(y, 0, 97000, 1);
        y.erase(0, 97099);
        T.is("the last of 100", () -> y.rows(0, POINTS) + " " + y.timeOf(0, POINTS, 98), "99 97098");
        y.erase(0, 97000);
        T.is("the first of 99", () -> y.rows(0, POINTS) + " " + y.timeOf(0, POINTS, 0), "98 97001");
    }

    private static void promise5ItsTime() {
        T.test("Promise 5", "time: its time");
        Store x = at(100000);
        x.put(0, 99000, 5);
        T.refuses("a second before", x, s -> s.erase(0, 98999), STATE);
        T.refuses("a second after", x, s -> s.erase(0, 99001), STATE);
        T.is("just then", () -> x.erase(0, 99000), 5);
        x.put(0, 100000, 6);
        T.is("the clock", () -> x.erase(0, 100000), 6);
        Store y = at(0);
        y.put(0, 0, 7);
        T.is("0", () -> y.erase(0, 0), 7);
    }

    private static void promise5ItsValue() {
        T.test("Promise 5", "Returns its value.");
        for (int value : new int[] {-1000000, -1, 0, 1, 1000000}) {
            Store x = at(100000);
            x.put(0, 99000, 5);
            x.put(0, 99000, value);
            T.is("the value that it has now, " + value, () -> x.erase(0, 99000), value);
        }
    }

    private static void promise5ItKeepsNoPointAtThisTime() {
        T.test("Promise 5", "Throws IllegalStateException if it keeps no point at this time");
        Store x = at(100000);
        for (int time : new int[] {99000, 96400, 100000, 0, -1, 100001, MIN, MAX}) {
            T.refuses("an empty series at " + time, x, s -> s.erase(0, time), STATE);
        }
        x.put(0, 99000, 5);
        x.put(1, 99500, 6);
        for (int time : new int[] {98999, 99001, 99500, 0, -1, 100001, MIN, MAX}) {
            T.refuses("a series with a point, at " + time, x, s -> s.erase(0, time), STATE);
        }
        x.erase(0, 99000);
        T.refuses("erased before", x, s -> s.erase(0, 99000), STATE);
        x.put(0, 100000, 7);
        x.advance(7201);
        T.refuses("expired", x, s -> s.erase(0, 100000), STATE);
    }

    private static void promise5TimeIsTooOld() {
        T.test("Promise 5", "time is too old");
        Store x = at(100000);
        x.putMany(0, 98000, 1, 1, 1, 2);
        x.advance(98000 + 3600 - 100000);
        T.is("just not", () -> x.erase(0, 98000), 1);
        x.advance(2);
        T.refuses("just so, and it is kept", x, s -> s.erase(0, 98001), STATE);
        T.is("it is kept", () -> x.valueAt(0, 98001), 2);
        x.advance(3599);
        T.refuses("the last second of it", x, s -> s.erase(0, 98001), STATE);
    }
}
