import java.io.IOException;
import java.io.UncheckedIOException;
import java.nio.file.Path;
import java.util.LinkedHashMap;
import java.util.Map;

/** What the tests of the document's boundary cases share. */
abstract class Boundary {
    static final int GAUGE = RollupStore.GAUGE, COUNTER = RollupStore.COUNTER;
    static final int POINTS = RollupStore.POINTS, MINUTES = RollupStore.MINUTES;
    static final int HOURS = RollupStore.HOURS, DAYS = RollupStore.DAYS;
    static final int ZERO = RollupStore.ZERO, PREVIOUS = RollupStore.PREVIOUS, LINEAR = RollupStore.LINEAR;
    static final int MIN = Integer.MIN_VALUE, MAX = Integer.MAX_VALUE;

    static final int MINUTE = 60, HOUR = 3600, DAY = 86400;
    static final int[] LENGTH = {1, MINUTE, HOUR, DAY};
    static final int[] FIRST_RETENTION = {7200, 86400, 864000, 8640000};
    static final int[] LEAST_RETENTION = {7200, 7200, 90000, 90000};
    static final int LONGEST = 100000000;

    /** The greatest multiple of 60, and so the latest end of a window. */
    static final int LATEST = 2147483640;

    static final String BOUNDS = Check.BOUNDS, ARGUMENT = Check.ARGUMENT, STATE = Check.STATE;
    static final Sentences T = sentences();

    /** A call that takes a series, with all else as it should be. */
    interface SeriesCall {
        Object on(Store x, int series);
    }

    /** A call that asks a rollup of series 0. */
    interface RollupCall {
        Object on(Store x, int tier, int time);
    }

    /** A call that asks a window of series 0. */
    interface WindowCall {
        Object on(Store x, int from, int to);
    }

    /** By its promise, each call that tells of a rollup of series 0. */
    static Map<Integer, RollupCall> callsThatTell() {
        Map<Integer, RollupCall> calls = new LinkedHashMap<>();
        calls.put(15, (x, t, at) -> x.count(0, t, at));
        calls.put(16, (x, t, at) -> x.sum(0, t, at));
        calls.put(17, (x, t, at) -> x.average(0, t, at));
        calls.put(18, (x, t, at) -> x.least(0, t, at));
        calls.put(19, (x, t, at) -> x.greatest(0, t, at));
        calls.put(20, (x, t, at) -> x.first(0, t, at));
        calls.put(21, (x, t, at) -> x.last(0, t, at));
        return calls;
    }

    private static Sentences sentences() {
        try {
            return new Sentences(new Check("Boundaries"), Path.of("../shared/DOC.md"));
        } catch (IOException unread) {
            throw new UncheckedIOException(unread);
        }
    }

    /** A gauge (0) and a counter (1), the clock at this time. */
    static Store at(int clock) {
        return of(clock, GAUGE, COUNTER);
    }

    /** Series of these kinds, the clock at this time. */
    static Store of(int clock, int... kinds) {
        Store x = new Store();
        for (int kind : kinds) {
            x.addSeries(kind);
        }
        advance(x, clock);
        return x;
    }

    /** Lets the clock go on by any number of seconds. */
    static void advance(Store x, int seconds) {
        for (int left = seconds; left > 0; left -= 1000000) {
            x.advance(Math.min(left, 1000000));
        }
    }

    /** Sets the retention of every tier to the longest, so that nothing expires unless a test wants it. */
    static Store keepAll(Store x) {
        for (int tier = POINTS; tier <= DAYS; tier++) {
            x.setRetention(tier, LONGEST);
        }
        return x;
    }

    /** Writes a point as soon as the clock has come to its time. */
    static void putAt(Store x, int series, int time, int value) {
        advance(x, time - x.clock());
        x.put(series, time, value);
    }

    /** Fills a series with 100 points, a second apart. */
    static void fill(Store x, int series, int time, int value) {
        for (int part = 0; part < 5; part++) {
            x.putMany(series, time + 20 * part, value, 1, 0, 20);
        }
    }

    static String times(Store x, int series, int tier) {
        StringBuilder text = new StringBuilder();
        int rows = x.rows(series, tier);
        for (int place = 0; place < rows; place++) {
            text.append(place == 0 ? "" : " ").append(x.timeOf(series, tier, place));
        }
        return text.toString();
    }

    static String allRows(Store x, int series) {
        return x.rows(series, POINTS) + " " + x.rows(series, MINUTES) + " " + x.rows(series, HOURS) + " "
                + x.rows(series, DAYS);
    }
}
