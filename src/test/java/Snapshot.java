/**
 * All that calls can tell of a store, as one text. They are made on stores in the same state, not on the store itself:
 * so they may change what they ask, and none of them is a 513th call.
 */
final class Snapshot {
    private static final int[] LENGTH = Model.LENGTH;
    // The calls that a row may need at once.
    private static final int MARGIN = 16;

    private final Store store;
    private final StringBuilder text = new StringBuilder();
    private Store twin;

    private Snapshot(Store store) {
        this.store = store;
        this.twin = store.again();
    }

    static String of(Store store) {
        return new Snapshot(store).text();
    }

    private String text() {
        int series = twin.series();
        text.append("clock ").append(twin.clock()).append(" series ").append(series);
        for (int tier = RollupStore.POINTS; tier <= RollupStore.DAYS; tier++) {
            text.append(" horizon ").append(twin.horizon(tier));
        }
        for (int number = 0; number < series; number++) {
            addPoints(number);
            for (int tier = RollupStore.MINUTES; tier <= RollupStore.DAYS; tier++) {
                addRollups(number, tier);
            }
            addKind(number);
        }
        addRetentions();
        text.append("\nexpire ").append(fresh().advance(1000000));
        return text.toString();
    }

    /** A store in the same state that takes as many calls as a row needs. */
    private Store fresh() {
        if (twin.calls() > Store.CALLS - MARGIN) {
            twin = store.again();
        }
        return twin;
    }

    private void addPoints(int series) {
        int rows = fresh().rows(series, RollupStore.POINTS);
        for (int place = 0; place < rows; place++) {
            int time = fresh().timeOf(series, RollupStore.POINTS, place);
            text.append("\n").append(time).append("=").append(fresh().valueAt(series, time));
        }
    }

    private void addRollups(int series, int tier) {
        int rows = fresh().rows(series, tier);
        for (int place = 0; place < rows; place++) {
            addRollup(series, tier, fresh().timeOf(series, tier, place));
        }
    }

    private void addRollup(int series, int tier, int time) {
        Store x = fresh();
        text.append("\n").append(tier).append(" ").append(time)
                .append(" count ").append(x.count(series, tier, time))
                .append(" sum ").append(x.sum(series, tier, time))
                .append(" average ").append(x.average(series, tier, time))
                .append(" least ").append(x.least(series, tier, time))
                .append(" greatest ").append(x.greatest(series, tier, time))
                .append(" first ").append(x.first(series, tier, time))
                .append(" last ").append(x.last(series, tier, time))
                .append(" increase ").append(Check.answerOf(() -> x.increase(series, time, time + LENGTH[tier])));
    }

    private void addKind(int series) {
        Store x = fresh();
        text.append("\nincrease of nothing ").append(Check.answerOf(() -> x.increase(series, 0, 0)));
    }

    private void addRetentions() {
        for (int tier = RollupStore.POINTS; tier <= RollupStore.DAYS; tier++) {
            int before = fresh().setRetention(tier, 100000000);
            text.append("\nretention ").append(before);
            fresh().setRetention(tier, before);
        }
    }
}
