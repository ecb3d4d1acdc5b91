/** The boundary cases of promise 4. */
final class BoundariesOfPutMany extends Boundary {
    private static final String OUT_OF_RANGE = "Throws IllegalArgumentException if time, value, step, rise or many is out of range";
    private static final String ENDS = "a point that put() would refuse ends the call, and is not written";

    private BoundariesOfPutMany() {
    }

    static void all() {
        promise4AsPutDoes();
        promise4Time0UpToTheClock();
        promise4TheValueOfTheFirstPoint();
        promise4Step1To3600();
        promise4Rise();
        promise4Many1To20();
        promise4APointLaterThanTheClockEndsTheCall();
        promise4APointOutOfRangeEndsTheCall();
        promise4APointBeyond100EndsTheCall();
        promise4TheFirstPointIsRefused();
        promise4HowManyPointsWereWritten();
    }

    private static void promise4AsPutDoes() {
        T.test("Promise 4", "Writes points at regular times, one after the other, as put() does.");
        // Time, value, step, rise, many.
        int[][] calls = {{97000, 10, 30, -4, 20}, {96400, 0, 180, 1000, 20}, {99999, 5, 1, 1, 20}, {100000, 5, 3600, 1, 2},
            {97190, 7, 1, 0, 20}, {96400, 999000, 1800, 1000, 20}, {99700, 1000, 60, -1000, 20}, {97000, 10, 1, 1, 1}};
        for (int series = 0; series < 2; series++) {
            int of = series;
            Store many = at(100000);
            Store single = at(100000);
            for (int[] a : calls) {
                int done = many.putMany(of, a[0], a[1], a[2], a[3], a[4]);
                int written = 0;
                while (written < a[4] && isWritten(single, of, a[0] + written * a[2], a[1] + written * a[3])) {
                    written++;
                }
                int due = written;
                String what = "series " + of + ", " + java.util.Arrays.toString(a);
                T.is(what, () -> done, due);
                T.is(what + ": the rows", () -> Snapshot.of(many), Snapshot.of(single));
            }
        }
    }

    private static boolean isWritten(Store x, int series, int time, int value) {
        return !Check.answerOf(() -> x.put(series, time, value)).endsWith("Exception");
    }

    private static void promise4Time0UpToTheClock() {
        T.test("Promise 4", "time: 0 up to the clock: the time of the first point", OUT_OF_RANGE);
        Store x = at(100);
        for (int time : new int[] {-1, 101, MIN, MAX}) {
            T.refuses("" + time, x, s -> s.putMany(0, time, 1, 1, 1, 20), ARGUMENT);
        }
        T.is("0", () -> x.putMany(0, 0, 1, 1, 1, 2) + " " + times(x, 0, POINTS), "2 0 1");
        T.is("the clock", () -> x.putMany(0, 100, 1, 1, 1, 2) + " " + times(x, 0, POINTS), "1 0 1 100");
        Store y = at(0);
        T.refuses("1 at the clock 0", y, s -> s.putMany(0, 1, 1, 1, 1, 1), ARGUMENT);
        T.is("0 at the clock 0", () -> y.putMany(0, 0, 1, 1, 1, 20), 1);
    }

    private static void promise4TheValueOfTheFirstPoint() {
        T.test("Promise 4", "value: the value of the first point", OUT_OF_RANGE);
        Store x = at(100);
        for (int value : new int[] {-1000001, 1000001, MIN, MAX}) {
            T.refuses("a gauge, " + value, x, s -> s.putMany(0, 50, value, 1, 0, 20), ARGUMENT);
        }
        // A rise that would lead back into the range does not help.
        T.refuses("a counter, -1", x, s -> s.putMany(1, 50, -1, 1, 1, 20), ARGUMENT);
        T.refuses("a counter, 1000001", x, s -> s.putMany(1, 50, 1000001, 1, -1, 20), ARGUMENT);
        T.is("a gauge, -1000000", () -> x.putMany(0, 50, -1000000, 1, 0, 2) + " " + x.valueAt(0, 51), "2 -1000000");
        T.is("a gauge, 1000000", () -> x.putMany(0, 60, 1000000, 1, 0, 2) + " " + x.valueAt(0, 61), "2 1000000");
        T.is("a counter, 0", () -> x.putMany(1, 50, 0, 1, 0, 2) + " " + x.valueAt(1, 50), "2 0");
        T.is("a counter, 1000000", () -> x.putMany(1, 60, 1000000, 1, 0, 2) + " " + x.valueAt(1, 61), "2 1000000");
    }

    private static void promise4Step1To3600() {
        T.test("Promise 4", "step: 1 to 3600: how many seconds each point is later than the one before", OUT_OF_RANGE);
        Store x = at(10000);
        for (int step : new int[] {0, -1, 3601, MIN, MAX}) {
            T.refuses("" + step, x, s -> s.putMany(0, 9000, 1, step, 0, 20), ARGUMENT);
            T.refuses("of one point, " + step, x, s -> s.putMany(0, 9000, 1, step, 0, 1), ARGUMENT);
        }
        T.is("1", () -> x.putMany(0, 9000, 1, 1, 0, 3) + " " + times(x, 0, POINTS), "3 9000 9001 9002");
        T.is("3600", () -> x.putMany(1, 6400, 1, 3600, 0, 20) + " " + times(x, 1, POINTS), "2 6400 10000");
    }

    private static void promise4Rise() {
        T.test("Promise 4", "rise: -1000 to 1000: by how much each value is greater than the one before", OUT_OF_RANGE);
        Store x = at(10000);
        for (int rise : new int[] {-1001, 1001, MIN, MAX}) {
            T.refuses("" + rise, x, s -> s.putMany(0, 9000, 1, 1, rise, 20), ARGUMENT);
            T.refuses("of one point, " + rise, x, s -> s.putMany(0, 9000, 1, 1, rise, 1), ARGUMENT);
        }
        T.is("-1000", () -> x.putMany(0, 9000, 1500, 1, -1000, 3), 3);
        T.is("-1000, the values", () -> x.valueAt(0, 9000) + " " + x.valueAt(0, 9001) + " " + x.valueAt(0, 9002), "1500 500 -500");
        T.is("1000", () -> x.putMany(0, 9000, -1500, 1, 1000, 3), 3);
        T.is("1000, the values", () -> x.valueAt(0, 9000) + " " + x.valueAt(0, 9001) + " " + x.valueAt(0, 9002), "-1500 -500 500");
        T.is("0", () -> x.putMany(0, 9000, 7, 1, 0, 3), 3);
        T.is("0, the values", () -> x.valueAt(0, 9000) + " " + x.valueAt(0, 9001) + " " + x.valueAt(0, 9002), "7 7 7");
    }

    private static void promise4Many1To20() {
        T.test("Promise 4", "many: 1 to 20: how many points at most", OUT_OF_RANGE);
        Store x = at(10000);
        for (int many : new int[] {0, -1, 21, MIN, MAX}) {
            T.refuses("" + many, x, s -> s.putMany(0, 9000, 1, 1, 0, many), ARGUMENT);
        }
        T.is("1", () -> x.putMany(0, 9000, 1, 1, 0, 1) + " " + x.rows(0, POINTS), "1 1");
        T.is("20", () -> x.putMany(0, 9100, 1, 1, 0, 20) + " " + x.rows(0, POINTS), "20 21");
        T.is("19", () -> x.putMany(0, 9200, 1, 1, 0, 19) + " " + x.rows(0, POINTS), "19 40");
    }

    private static void promise4APointLaterThanTheClockEndsTheCall() {
        T.test("Promise 4", ENDS);
        Store x = at(10000);
        T.is("the clock is the last", () -> x.putMany(0, 9998, 1, 1, 1, 20) + " " + times(x, 0, POINTS), "3 9998 9999 10000");
        T.is("just beyond the clock", () -> x.putMany(1, 9999, 1, 2, 1, 20) + " " + times(x, 1, POINTS), "1 9999");
        x.advance(2);
        T.is("nothing comes by itself", () -> times(x, 0, POINTS) + "; " + times(x, 1, POINTS), "9998 9999 10000; 9999");
    }

    private static void promise4APointOutOfRangeEndsTheCall() {
        T.test("Promise 4", ENDS);
        Store x = at(10000);
        T.is("up to the greatest of a gauge", () -> x.putMany(0, 9000, 998000, 1, 1000, 20), 3);
        T.is("the greatest stands", () -> x.valueAt(0, 9002) + " " + x.rows(0, POINTS), "1000000 3");
        T.is("one above it", () -> x.putMany(0, 9100, 999001, 1, 1000, 20), 1);
        T.is("down to the least of a gauge", () -> x.putMany(0, 9200, -998000, 1, -1000, 20), 3);
        T.is("the least stands", () -> x.valueAt(0, 9202), -1000000);
        T.is("one below it", () -> x.putMany(0, 9300, -999001, 1, -1000, 20), 1);
        T.is("up to the greatest of a counter", () -> x.putMany(1, 9000, 999999, 1, 1, 20), 2);
        T.is("down to the least of a counter", () -> x.putMany(1, 9100, 2, 1, -1, 20), 3);
        T.is("0 stands", () -> x.valueAt(1, 9102), 0);
        T.is("past the least of a counter", () -> x.putMany(1, 9200, 2, 1, -2, 20), 2);
        T.is("what was refused is not written", () -> times(x, 1, POINTS), "9000 9001 9100 9101 9102 9200 9201");
    }

    private static void promise4APointBeyond100EndsTheCall() {
        T.test("Promise 4", ENDS);
        Store x = at(10000);
        fill(x, 0, 9000, 1);
        x.erase(0, 9099);
        T.is("one place is left", () -> x.putMany(0, 9100, 2, 1, 0, 20) + " " + x.rows(0, POINTS), "1 100");
        T.is("the 101st is not written", () -> x.valueAt(0, 9101), STATE);
        T.is("replaced up to the first new one", () -> x.putMany(0, 9097, 3, 1, 0, 20), 2);
        T.is("those after it are not written", () -> x.valueAt(0, 9098) + " " + x.valueAt(0, 9100), "3 2");
        T.is("all are replaced", () -> x.putMany(0, 9000, 4, 1, 0, 20) + " " + x.rows(0, POINTS), "20 100");
        T.is("every other one is replaced", () -> x.putMany(0, 9060, 5, 2, 0, 20), 20);
    }

    private static void promise4TheFirstPointIsRefused() {
        T.test("Promise 4", "Throws IllegalStateException if put() would refuse the first point with this exception");
        Store x = at(10000);
        T.refuses("too old", x, s -> s.putMany(0, 6399, 1, 1, 0, 20), STATE);
        T.refuses("too old, the next ones not", x, s -> s.putMany(0, 6399, 1, 3600, 0, 2), STATE);
        T.is("just not too old", () -> x.putMany(0, 6400, 1, 1, 0, 1), 1);
        x.erase(0, 6400);
        fill(x, 0, 9000, 1);
        T.refuses("100 points, none of them there", x, s -> s.putMany(0, 9100, 1, 1, 0, 20), STATE);
        T.refuses("100 points, the next one is there", x, s -> s.putMany(0, 8999, 1, 1, 0, 20), STATE);
        T.is("100 points, one of them there", () -> x.putMany(0, 9099, 2, 1, 0, 20), 1);
        x.advance(9000 + 3601 - 10000);
        T.refuses("too old, and there", x, s -> s.putMany(0, 9000, 1, 1, 0, 20), STATE);
    }

    private static void promise4HowManyPointsWereWritten() {
        T.test("Promise 4", "Returns how many points were written.");
        Store x = at(10000);
        for (int many = 1; many <= 20; many++) {
            int asked = many;
            T.is("all of " + many, () -> x.putMany(0, 9000, 1, 1, 0, asked), asked);
        }
        T.is("new and replaced ones alike", () -> x.putMany(0, 9010, 1, 1, 0, 20) + " " + x.rows(0, POINTS), "20 30");
        T.is("the first one alone", () -> x.putMany(0, 10000, 1, 1, 0, 20), 1);
    }
}
