import java.util.ArrayList;
import java.util.List;

/**
 * A RollupStore that takes no 513th call, since the document leaves free what it answers, and that remembers
 * its calls, so that another one can be brought to the same state.
 */
final class Store {
    /** A call of the face. */
    interface Act {
        Object on(RollupStore x);
    }

    static final int CALLS = 512;

    private final RollupStore inner = new RollupStore();
    private final List<Act> history = new ArrayList<>();

    /** A new store after the same calls. */
    Store again() {
        Store twin = new Store();
        for (Act act : history) {
            Check.answerOf(() -> twin.call(act));
        }
        return twin;
    }

    int calls() {
        return history.size();
    }

    private Object call(Act act) {
        if (history.size() == CALLS) {
            throw new AssertionError("a test makes a 513th call");
        }
        history.add(act);
        return act.on(inner);
    }

    int addSeries(int kind) {
        return (int) call(x -> x.addSeries(kind));
    }

    boolean put(int series, int time, int value) {
        return (boolean) call(x -> x.put(series, time, value));
    }

    int putMany(int series, int time, int value, int step, int rise, int many) {
        return (int) call(x -> x.putMany(series, time, value, step, rise, many));
    }

    int erase(int series, int time) {
        return (int) call(x -> x.erase(series, time));
    }

    int advance(int seconds) {
        return (int) call(x -> x.advance(seconds));
    }

    int setRetention(int tier, int seconds) {
        return (int) call(x -> x.setRetention(tier, seconds));
    }

    int clock() {
        return (int) call(x -> x.clock());
    }

    int series() {
        return (int) call(x -> x.series());
    }

    int horizon(int tier) {
        return (int) call(x -> x.horizon(tier));
    }

    int rows(int series, int tier) {
        return (int) call(x -> x.rows(series, tier));
    }

    int timeOf(int series, int tier, int place) {
        return (int) call(x -> x.timeOf(series, tier, place));
    }

    int valueAt(int series, int time) {
        return (int) call(x -> x.valueAt(series, time));
    }

    boolean hasRollup(int series, int tier, int time) {
        return (boolean) call(x -> x.hasRollup(series, tier, time));
    }

    int count(int series, int tier, int time) {
        return (int) call(x -> x.count(series, tier, time));
    }

    long sum(int series, int tier, int time) {
        return (long) call(x -> x.sum(series, tier, time));
    }

    double average(int series, int tier, int time) {
        return (double) call(x -> x.average(series, tier, time));
    }

    int least(int series, int tier, int time) {
        return (int) call(x -> x.least(series, tier, time));
    }

    int greatest(int series, int tier, int time) {
        return (int) call(x -> x.greatest(series, tier, time));
    }

    int first(int series, int tier, int time) {
        return (int) call(x -> x.first(series, tier, time));
    }

    int last(int series, int tier, int time) {
        return (int) call(x -> x.last(series, tier, time));
    }

    int filled(int series, int tier, int time, int rule) {
        return (int) call(x -> x.filled(series, tier, time, rule));
    }

    int parts(int from, int to) {
        return (int) call(x -> x.parts(from, to));
    }

    boolean isKnown(int from, int to) {
        return (boolean) call(x -> x.isKnown(from, to));
    }

    long total(int series, int from, int to) {
        return (long) call(x -> x.total(series, from, to));
    }

    long totalByPoints(int series, int from, int to) {
        return (long) call(x -> x.totalByPoints(series, from, to));
    }

    long increase(int series, int from, int to) {
        return (long) call(x -> x.increase(series, from, to));
    }

    double ratePerHour(int series, int from, int to) {
        return (double) call(x -> x.ratePerHour(series, from, to));
    }

    int gaps(int series, int tier, int from, int to) {
        return (int) call(x -> x.gaps(series, tier, from, to));
    }
}
