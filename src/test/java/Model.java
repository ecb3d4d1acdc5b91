import java.util.ArrayList;
import java.util.List;
import java.util.Map;
import java.util.NavigableMap;
import java.util.TreeMap;
import java.util.TreeSet;

/**
 * The document in its plainest words, for comparison: every point that was not erased is remembered
 * for ever, and each answer is made anew from all of them.
 */
final class Model {
    static final int[] LENGTH = {1, 60, 3600, 86400};

    private final List<Integer> kinds = new ArrayList<>();
    private final List<TreeMap<Integer, Integer>> points = new ArrayList<>();
    private final int[] retention = {7200, 86400, 864000, 8640000};
    private final int[] horizon = new int[4];
    private int clock;

    int addSeries(int kind) {
        argument(kind == 0 || kind == 1);
        state(kinds.size() < 4);
        kinds.add(kind);
        points.add(new TreeMap<>());
        return kinds.size() - 1;
    }

    boolean put(int series, int time, int value) {
        bounds(series);
        argument(time >= 0 && time <= clock && fits(series, value));
        state(time >= clock - 3600);
        state(rows(series, 0) < 100 || points.get(series).containsKey(time));
        return points.get(series).put(time, value) != null;
    }

    int putMany(int series, int time, int value, int step, int rise, int many) {
        bounds(series);
        argument(time >= 0 && time <= clock && fits(series, value));
        argument(step >= 1 && step <= 3600 && rise >= -1000 && rise <= 1000 && many >= 1 && many <= 20);
        put(series, time, value);
        for (int done = 1; done < many; done++) {
            try {
                put(series, time + done * step, value + done * rise);
            } catch (IllegalArgumentException | IllegalStateException refused) {
                return done;
            }
        }
        return many;
    }

    int erase(int series, int time) {
        bounds(series);
        state(keeps(series, time) && time >= clock - 3600);
        return points.get(series).remove(time);
    }

    int advance(int seconds) {
        argument(seconds >= 1 && seconds <= 1000000);
        int before = allRows();
        clock += seconds;
        for (int tier = 0; tier <= 3; tier++) {
            horizon[tier] = Math.max(horizon[tier], clock - retention[tier]);
        }
        return before - allRows();
    }

    int setRetention(int tier, int seconds) {
        tier(tier, 0);
        argument(seconds >= (tier <= 1 ? 7200 : 90000) && seconds <= 100000000);
        int before = retention[tier];
        retention[tier] = seconds;
        horizon[tier] = Math.max(horizon[tier], clock - seconds);
        return before;
    }

    int clock() {
        return clock;
    }

    int series() {
        return kinds.size();
    }

    int horizon(int tier) {
        tier(tier, 0);
        return horizon[tier];
    }

    int rows(int series, int tier) {
        bounds(series);
        tier(tier, 0);
        return times(series, tier).size();
    }

    int timeOf(int series, int tier, int place) {
        bounds(series);
        tier(tier, 0);
        state(place >= 0 && place < rows(series, tier));
        return new ArrayList<>(times(series, tier)).get(place);
    }

    int valueAt(int series, int time) {
        bounds(series);
        state(keeps(series, time));
        return points.get(series).get(time);
    }

    boolean hasRollup(int series, int tier, int time) {
        bounds(series);
        tier(tier, 1);
        argument(time >= 0);
        return times(series, tier).contains(time - time % LENGTH[tier]);
    }

    int count(int series, int tier, int time) {
        return rollup(series, tier, time).size();
    }

    long sum(int series, int tier, int time) {
        return sumOf(rollup(series, tier, time));
    }

    double average(int series, int tier, int time) {
        return (double) sum(series, tier, time) / count(series, tier, time);
    }

    int least(int series, int tier, int time) {
        return rollup(series, tier, time).values().stream().mapToInt(v -> v).min().getAsInt();
    }

    int greatest(int series, int tier, int time) {
        return rollup(series, tier, time).values().stream().mapToInt(v -> v).max().getAsInt();
    }

    int first(int series, int tier, int time) {
        return rollup(series, tier, time).firstEntry().getValue();
    }

    int last(int series, int tier, int time) {
        return rollup(series, tier, time).lastEntry().getValue();
    }

    int filled(int series, int tier, int time, int rule) {
        bounds(series);
        tier(tier, 1);
        argument(time >= 0 && rule >= 0 && rule <= 2);
        if (hasRollup(series, tier, time)) {
            return last(series, tier, time);
        }
        if (rule == 0) {
            return 0;
        }
        int begin = time - time % LENGTH[tier];
        Integer earlier = times(series, tier).lower(begin);
        Integer later = times(series, tier).higher(begin);
        state(earlier != null);
        long from = last(series, tier, earlier);
        if (rule == 1) {
            return (int) from;
        }
        state(later != null);
        long to = last(series, tier, later);
        return (int) (from + (to - from) * (begin - earlier) / (later - earlier));
    }

    int parts(int from, int to) {
        window(from, to, 60);
        return partsOf(from, to).size();
    }

    boolean isKnown(int from, int to) {
        window(from, to, 60);
        for (long[] part : partsOf(from, to)) {
            if (part[0] + LENGTH[(int) part[1]] <= horizon[(int) part[1]]) {
                return false;
            }
        }
        return true;
    }

    long total(int series, int from, int to) {
        bounds(series);
        window(from, to, 60);
        state(isKnown(from, to));
        return sumOf(points.get(series).subMap(from, to));
    }

    long totalByPoints(int series, int from, int to) {
        bounds(series);
        window(from, to, 60);
        state(from >= horizon[0]);
        return sumOf(points.get(series).subMap(from, to));
    }

    long increase(int series, int from, int to) {
        bounds(series);
        window(from, to, 60);
        state(kinds.get(series) == 1);
        state(isKnown(from, to));
        long increase = 0;
        Integer before = null;
        for (int value : points.get(series).subMap(from, to).values()) {
            increase += before == null ? 0 : value < before ? value : value - before;
            before = value;
        }
        return increase;
    }

    double ratePerHour(int series, int from, int to) {
        bounds(series);
        window(from, to, 60);
        argument(to > from);
        return (double) increase(series, from, to) * 3600 / (to - from);
    }

    int gaps(int series, int tier, int from, int to) {
        bounds(series);
        tier(tier, 1);
        window(from, to, LENGTH[tier]);
        int gaps = 0;
        TreeSet<Integer> kept = times(series, tier);
        for (long begin = from; begin < to; begin += LENGTH[tier]) {
            if (begin + LENGTH[tier] > horizon[tier] && !kept.contains((int) begin)) {
                gaps++;
            }
        }
        return gaps;
    }

    // Step by step, not by the arithmetic that the store uses: a part is the longest that begins here
    // on a multiple of its length and ends in the window.
    private static List<long[]> partsOf(int from, int to) {
        List<long[]> parts = new ArrayList<>();
        long begin = from;
        while (begin < to) {
            int tier = 3;
            while (begin % LENGTH[tier] != 0 || begin + LENGTH[tier] > to) {
                tier--;
            }
            parts.add(new long[] {begin, tier});
            begin += LENGTH[tier];
        }
        return parts;
    }

    private NavigableMap<Integer, Integer> rollup(int series, int tier, int time) {
        boolean isThere = hasRollup(series, tier, time);
        state(isThere);
        int begin = time - time % LENGTH[tier];
        return points.get(series).subMap(begin, true, begin + LENGTH[tier] - 1, true);
    }

    private TreeSet<Integer> times(int series, int tier) {
        TreeSet<Integer> times = new TreeSet<>();
        for (int time : points.get(series).keySet()) {
            int begin = time - time % LENGTH[tier];
            if (tier == 0 ? time >= horizon[0] : begin + LENGTH[tier] > horizon[tier]) {
                times.add(begin);
            }
        }
        return times;
    }

    private int allRows() {
        int rows = 0;
        for (int series = 0; series < kinds.size(); series++) {
            for (int tier = 0; tier <= 3; tier++) {
                rows += rows(series, tier);
            }
        }
        return rows;
    }

    private boolean keeps(int series, int time) {
        return time >= horizon[0] && points.get(series).containsKey(time);
    }

    private boolean fits(int series, int value) {
        return value <= 1000000 && value >= (kinds.get(series) == 1 ? 0 : -1000000);
    }

    private static long sumOf(Map<Integer, Integer> some) {
        long sum = 0;
        for (int value : some.values()) {
            sum += value;
        }
        return sum;
    }

    private void bounds(int series) {
        if (series < 0 || series >= kinds.size()) {
            throw new IndexOutOfBoundsException();
        }
    }

    private static void tier(int tier, int least) {
        argument(tier >= least && tier <= 3);
    }

    private static void window(int from, int to, int length) {
        argument(from >= 0 && to >= from && from % length == 0 && to % length == 0);
    }

    private static void argument(boolean holds) {
        if (!holds) {
            throw new IllegalArgumentException();
        }
    }

    private static void state(boolean holds) {
        if (!holds) {
            throw new IllegalStateException();
        }
    }
}
