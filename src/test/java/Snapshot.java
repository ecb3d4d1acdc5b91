/** All that can be read of a store, as one text. */
final class Snapshot {
    private Snapshot() {
    }

    static String of(RollupStore x) {
        StringBuilder text = new StringBuilder();
        text.append("clock ").append(x.clock()).append(" series ").append(x.series());
        for (int tier = RollupStore.POINTS; tier <= RollupStore.DAYS; tier++) {
            text.append(" horizon ").append(x.horizon(tier));
        }
        for (int series = 0; series < x.series(); series++) {
            addSeries(text, x, series);
        }
        return text.toString();
    }

    private static void addSeries(StringBuilder text, RollupStore x, int series) {
        for (int place = 0; place < x.rows(series, RollupStore.POINTS); place++) {
            int time = x.timeOf(series, RollupStore.POINTS, place);
            text.append("\n").append(time).append("=").append(x.valueAt(series, time));
        }
        for (int tier = RollupStore.MINUTES; tier <= RollupStore.DAYS; tier++) {
            for (int place = 0; place < x.rows(series, tier); place++) {
                addRollup(text, x, series, tier, x.timeOf(series, tier, place));
            }
        }
    }

    private static void addRollup(StringBuilder text, RollupStore x, int series, int tier, int time) {
        text.append("\n").append(tier).append(" ").append(time)
                .append(" count ").append(x.count(series, tier, time))
                .append(" sum ").append(x.sum(series, tier, time))
                .append(" average ").append(x.average(series, tier, time))
                .append(" least ").append(x.least(series, tier, time))
                .append(" greatest ").append(x.greatest(series, tier, time))
                .append(" first ").append(x.first(series, tier, time))
                .append(" last ").append(x.last(series, tier, time));
    }
}
