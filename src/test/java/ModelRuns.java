/** Long runs of drawn calls, each answered by the store and by the model; the draw is the same every time. */
public final class ModelRuns {
    private static final int RUNS = 1500;
    private static final int CALLS = 512;
    private static final int[] LENGTH = Model.LENGTH;

    private final Check check;
    private long drawn;
    private RollupStore store;
    private Model model;

    private ModelRuns(Check check) {
        this.check = check;
    }

    public static void main(String[] args) {
        Check check = new Check("ModelRuns");
        ModelRuns runs = new ModelRuns(check);
        for (int run = 0; run < RUNS; run++) {
            runs.run(run);
        }
        check.end();
    }

    private void run(int run) {
        drawn = 1000003L * run + 17;
        store = new RollupStore();
        model = new Model();
        int style = run % 6;
        int firstSeries = below(5);
        for (int series = 0; series < firstSeries; series++) {
            int kind = below(2);
            same("run " + run + " addSeries " + kind, () -> store.addSeries(kind), () -> model.addSeries(kind));
        }
        for (int call = firstSeries; call < CALLS; call++) {
            String where = "run " + run + " call " + call + " ";
            if (below(100) < 40) {
                write(where, style);
            } else if (below(100) < 50) {
                readRow(where);
            } else {
                readWindow(where);
            }
        }
    }

    private void write(String where, int style) {
        int series = series();
        int pick = below(100);
        if (pick < 30) {
            int time = writableTime();
            int value = value();
            same(where + "put " + series + " " + time + " " + value,
                    () -> store.put(series, time, value), () -> model.put(series, time, value));
        } else if (pick < 55) {
            putMany(where, series);
        } else if (pick < 70) {
            int time = below(3) == 0 ? writableTime() : pointTime(series);
            same(where + "erase " + series + " " + time,
                    () -> store.erase(series, time), () -> model.erase(series, time));
        } else if (pick < 90) {
            int seconds = seconds(style);
            same(where + "advance " + seconds, () -> store.advance(seconds), () -> model.advance(seconds));
        } else if (pick < 97) {
            int tier = tier();
            int seconds = retention();
            same(where + "setRetention " + tier + " " + seconds,
                    () -> store.setRetention(tier, seconds), () -> model.setRetention(tier, seconds));
        } else {
            int kind = below(4) - 1;
            same(where + "addSeries " + kind, () -> store.addSeries(kind), () -> model.addSeries(kind));
        }
    }

    private void putMany(String where, int series) {
        int time = writableTime();
        int value = value();
        int step = oneOf(1, 1 + below(60), 60, 180, 1 + below(3600), 3600, 0, 3601);
        int rise = oneOf(0, below(2001) - 1000, 1000, -1000, 7, -3, 1001, -1001);
        int many = oneOf(20, 20, 1 + below(20), 1, 19, 20, 0, 21);
        same(where + "putMany " + series + " " + time + " " + value + " " + step + " " + rise + " " + many,
                () -> store.putMany(series, time, value, step, rise, many),
                () -> model.putMany(series, time, value, step, rise, many));
    }

    private void readRow(String where) {
        int series = series();
        int tier = tier();
        int time = below(4) == 0 ? pointTime(series) : time();
        String of = series + " " + tier + " " + time;
        switch (below(16)) {
            case 0 -> same(where + "clock", () -> store.clock(), () -> model.clock());
            case 1 -> same(where + "series", () -> store.series(), () -> model.series());
            case 2 -> same(where + "horizon " + tier, () -> store.horizon(tier), () -> model.horizon(tier));
            case 3, 4 -> same(where + "rows " + of, () -> store.rows(series, tier), () -> model.rows(series, tier));
            case 5, 6 -> {
                int place = below(Math.max(1, rows(series, tier)) + 2) - 1;
                same(where + "timeOf " + series + " " + tier + " " + place,
                        () -> store.timeOf(series, tier, place), () -> model.timeOf(series, tier, place));
            }
            case 7 -> same(where + "valueAt " + of, () -> store.valueAt(series, time), () -> model.valueAt(series, time));
            case 8 -> same(where + "hasRollup " + of,
                    () -> store.hasRollup(series, tier, time), () -> model.hasRollup(series, tier, time));
            case 9 -> same(where + "count " + of, () -> store.count(series, tier, time), () -> model.count(series, tier, time));
            case 10 -> same(where + "sum " + of, () -> store.sum(series, tier, time), () -> model.sum(series, tier, time));
            case 11 -> same(where + "average " + of,
                    () -> store.average(series, tier, time), () -> model.average(series, tier, time));
            case 12 -> same(where + "least " + of, () -> store.least(series, tier, time), () -> model.least(series, tier, time));
            case 13 -> same(where + "greatest " + of,
                    () -> store.greatest(series, tier, time), () -> model.greatest(series, tier, time));
            case 14 -> same(where + "first " + of, () -> store.first(series, tier, time), () -> model.first(series, tier, time));
            default -> same(where + "last " + of, () -> store.last(series, tier, time), () -> model.last(series, tier, time));
        }
    }

    private void readWindow(String where) {
        int series = series();
        int tier = tier();
        int rule = oneOf(0, 1, 1, 2, 2, 2, -1, 3);
        int time = time();
        int length = below(3) == 0 ? LENGTH[1 + below(3)] : 60;
        int from = edge(length);
        int to = below(12) == 0 ? edge(length) : from + span(length);
        String of = series + " " + from + " " + to;
        switch (below(9)) {
            case 0, 1 -> same(where + "filled " + series + " " + tier + " " + time + " " + rule,
                    () -> store.filled(series, tier, time, rule), () -> model.filled(series, tier, time, rule));
            case 2 -> same(where + "parts " + of, () -> store.parts(from, to), () -> model.parts(from, to));
            case 3 -> same(where + "isKnown " + of, () -> store.isKnown(from, to), () -> model.isKnown(from, to));
            case 4 -> same(where + "total " + of, () -> store.total(series, from, to), () -> model.total(series, from, to));
            case 5 -> same(where + "totalByPoints " + of,
                    () -> store.totalByPoints(series, from, to), () -> model.totalByPoints(series, from, to));
            case 6 -> same(where + "increase " + of,
                    () -> store.increase(series, from, to), () -> model.increase(series, from, to));
            case 7 -> same(where + "ratePerHour " + of,
                    () -> store.ratePerHour(series, from, to), () -> model.ratePerHour(series, from, to));
            default -> gaps(where, series, tier);
        }
    }

    private void gaps(String where, int series, int tier) {
        int length = tier >= 1 && tier <= 3 ? LENGTH[tier] : 60;
        int from = edge(length);
        int to = from + below(100) * length + oneOf(0, 0, 0, 0, 0, 0, 0, 60);
        same(where + "gaps " + series + " " + tier + " " + from + " " + to,
                () -> store.gaps(series, tier, from, to), () -> model.gaps(series, tier, from, to));
    }

    private void same(String what, Check.Call call, Check.Call due) {
        check.is(what, call, Check.answerOf(due));
    }

    // ---- what is drawn

    private int below(int bound) {
        drawn = drawn * 6364136223846793005L + 1442695040888963407L;
        return (int) ((drawn >>> 33) % bound);
    }

    private int oneOf(int... choices) {
        return choices[below(choices.length)];
    }

    private int series() {
        return below(25) == 0 ? oneOf(-1, 4, model.series(), Integer.MIN_VALUE) : below(Math.max(1, model.series()));
    }

    private int tier() {
        return below(25) == 0 ? oneOf(-1, 4, Integer.MAX_VALUE) : below(4);
    }

    private int value() {
        return oneOf(0, 1, below(100), below(2000001) - 1000000, below(1000001), 1000000, 999990, -1000000,
                below(20) == 0 ? 1000001 : 5, below(20) == 0 ? -1000001 : 6);
    }

    private int writableTime() {
        int clock = model.clock();
        return oneOf(clock, clock - below(3601), clock - below(60), clock - 3600, clock - below(7300),
                clock - below(3601), clock - clock % 60, clock - clock % 3600, clock - clock % 86400, clock - clock % 60 - 1,
                below(8) == 0 ? clock - 3601 : clock, below(8) == 0 ? clock + 1 : clock, below(8) == 0 ? -1 : clock);
    }

    private int rows(int series, int tier) {
        boolean isThere = series >= 0 && series < model.series() && tier >= 0 && tier <= 3;
        return isThere ? model.rows(series, tier) : 0;
    }

    private int pointTime(int series) {
        int rows = rows(series, 0);
        return rows == 0 ? time() : model.timeOf(series, 0, below(rows));
    }

    private int time() {
        int clock = model.clock();
        int span = oneOf(60, 3600, 10000, 100000, 1000000, 10000000);
        int near = clock - below(span);
        return oneOf(near, near, near, Math.max(0, near), Math.max(0, near), clock + below(span),
                model.horizon(below(4)), below(5) == 0 ? Integer.MAX_VALUE : clock);
    }

    private int seconds(int style) {
        int small = oneOf(1, 1 + below(60), 1 + below(600), 60, 3600);
        int middle = oneOf(3600, 3601, 7200, 1 + below(10000), 86400, 1 + below(90000));
        int great = oneOf(86400, 200000, 1000000, 1 + below(1000000));
        int wrong = oneOf(0, -1, 1000001, Integer.MAX_VALUE);
        if (below(30) == 0) {
            return wrong;
        }
        return style < 3 ? oneOf(small, small, middle) : style < 5 ? oneOf(small, middle, great) : oneOf(middle, great);
    }

    private int retention() {
        return oneOf(7200, 7199, 90000, 89999, 86400, 100000000, 100000001, 864000, 7200 + below(100000), 90000 + below(1000000));
    }

    private int edge(int length) {
        int time = Math.max(0, time());
        int edge = time - time % length;
        return below(30) == 0 ? oneOf(edge + 1, -60, edge + 30) : edge;
    }

    private int span(int length) {
        int span = oneOf(0, 1, below(70), below(3000), below(200)) * oneOf(60, length);
        return below(30) == 0 ? span + 1 : span;
    }
}
