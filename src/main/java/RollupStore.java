/** A store of time series with rollups by minute, hour and day. */
public final class RollupStore {
    public static final int GAUGE = 0, COUNTER = 1;
    public static final int POINTS = 0, MINUTES = 1, HOURS = 2, DAYS = 3;
    public static final int ZERO = 0, PREVIOUS = 1, LINEAR = 2;

    private static final int MOST_SERIES = 4;
    private static final int MOST_POINTS = 100;
    private static final int MOST_VALUE = 1000000;
    private static final int MOST_AGE = 3600;
    private static final int MINUTE = 60, HOUR = 3600, DAY = 86400;

    // 512 calls write less than 512 * 20 points, so no tier of theirs is ever full.
    private static final int MOST_ROWS = 16384;

    // 512 calls stay far below it, and the end of a day there still fits an int.
    private static final int LAST_CLOCK = 2000000000;

    private final Series[] kept = new Series[MOST_SERIES];
    private int howMany;
    private int clock;
    private final int[] retention = {7200, 86400, 864000, 8640000};
    private final int[] horizon = new int[4];

    // Used again by each call about a window, so that such a call makes no object.
    private final Window window = new Window();
    private final Rollup summary = new Rollup();

    public RollupStore() {
    }

    // ---- writing

    public int addSeries(int kind) throws IllegalArgumentException, IllegalStateException {
        needRange(kind, GAUGE, COUNTER);
        if (howMany >= MOST_SERIES) {
            throw new IllegalStateException("there are 4 series");
        }
        kept[howMany] = new Series(kind);
        howMany++;
        return howMany - 1;
    }

    public boolean put(int series, int time, int value)
            throws IndexOutOfBoundsException, IllegalArgumentException, IllegalStateException {
        Series written = seriesAt(series);
        needPoint(written, time, value);
        needPlace(written, time);
        return written.write(time, value);
    }

    public int putMany(int series, int time, int value, int step, int rise, int many)
            throws IndexOutOfBoundsException, IllegalArgumentException, IllegalStateException {
        Series written = seriesAt(series);
        needPoint(written, time, value);
        needRange(step, 1, 3600);
        needRange(rise, -1000, 1000);
        needRange(many, 1, 20);
        needPlace(written, time);
        for (int done = 0; done < many; done++) {
            int nextTime = time + done * step;
            int nextValue = value + done * rise;
            if (!isPoint(written, nextTime, nextValue) || !hasPlace(written, nextTime)) {
                return done;
            }
            written.write(nextTime, nextValue);
        }
        return many;
    }

    public int erase(int series, int time) throws IndexOutOfBoundsException, IllegalStateException {
        Series written = seriesAt(series);
        int place = placeOfPoint(written, time);
        if (isTooOld(time)) {
            throw new IllegalStateException("the time is too old");
        }
        int value = written.points.values[place];
        written.erasePoint(place, time);
        return value;
    }

    public int advance(int seconds) throws IllegalArgumentException {
        needRange(seconds, 1, 1000000);
        clock = Math.min(clock + seconds, LAST_CLOCK);
        int expired = 0;
        for (int tier = POINTS; tier <= DAYS; tier++) {
            expired += moveHorizon(tier);
        }
        return expired;
    }

    public int setRetention(int tier, int seconds) throws IllegalArgumentException {
        needRange(tier, POINTS, DAYS);
        needRange(seconds, tier <= MINUTES ? 7200 : 90000, 100000000);
        int before = retention[tier];
        retention[tier] = seconds;
        moveHorizon(tier);
        return before;
    }

    // ---- what is kept

    public int clock() {
        return clock;
    }

    public int series() {
        return howMany;
    }

    public int horizon(int tier) throws IllegalArgumentException {
        needRange(tier, POINTS, DAYS);
        return horizon[tier];
    }

    public int rows(int series, int tier) throws IndexOutOfBoundsException, IllegalArgumentException {
        Series asked = seriesAt(series);
        needRange(tier, POINTS, DAYS);
        return asked.rowsOf(tier);
    }

    public int timeOf(int series, int tier, int place)
            throws IndexOutOfBoundsException, IllegalArgumentException, IllegalStateException {
        Series asked = seriesAt(series);
        needRange(tier, POINTS, DAYS);
        if (tier == POINTS) {
            return timeOfPoint(asked.points, place);
        }
        Rollup row = asked.rollupsOf(tier).rowOrNull(place);
        if (row == null) {
            throw new IllegalStateException("there is no such place");
        }
        return row.begin;
    }

    public int valueAt(int series, int time) throws IndexOutOfBoundsException, IllegalStateException {
        Series asked = seriesAt(series);
        return asked.points.values[placeOfPoint(asked, time)];
    }

    // ---- a rollup: the one of a tier in which a time is

    public boolean hasRollup(int series, int tier, int time)
            throws IndexOutOfBoundsException, IllegalArgumentException {
        return rollupOrNull(series, tier, time) != null;
    }

    public int count(int series, int tier, int time)
            throws IndexOutOfBoundsException, IllegalArgumentException, IllegalStateException {
        return rollupAt(series, tier, time).count;
    }

    public long sum(int series, int tier, int time)
            throws IndexOutOfBoundsException, IllegalArgumentException, IllegalStateException {
        return rollupAt(series, tier, time).sum;
    }

    public double average(int series, int tier, int time)
            throws IndexOutOfBoundsException, IllegalArgumentException, IllegalStateException {
        Rollup asked = rollupAt(series, tier, time);
        return (double) asked.sum / Math.max(1, asked.count);
    }

    public int least(int series, int tier, int time)
            throws IndexOutOfBoundsException, IllegalArgumentException, IllegalStateException {
        return rollupAt(series, tier, time).least;
    }

    public int greatest(int series, int tier, int time)
            throws IndexOutOfBoundsException, IllegalArgumentException, IllegalStateException {
        return rollupAt(series, tier, time).greatest;
    }

    public int first(int series, int tier, int time)
            throws IndexOutOfBoundsException, IllegalArgumentException, IllegalStateException {
        return rollupAt(series, tier, time).first;
    }

    public int last(int series, int tier, int time)
            throws IndexOutOfBoundsException, IllegalArgumentException, IllegalStateException {
        return rollupAt(series, tier, time).last;
    }

    public int filled(int series, int tier, int time, int rule)
            throws IndexOutOfBoundsException, IllegalArgumentException, IllegalStateException {
        Rollups asked = rollupsAt(series, tier, time);
        needRange(rule, ZERO, LINEAR);
        int begin = beginOf(tier, time);
        int place = asked.placeFrom(begin);
        Rollup earlier = asked.rowOrNull(place - 1);
        Rollup next = asked.rowOrNull(place);
        if (next != null && next.begin == begin) {
            return next.last;
        }
        if (rule == ZERO) {
            return 0;
        }
        if (earlier == null || (rule == LINEAR && next == null)) {
            throw new IllegalStateException("the rule finds no rollup that it needs");
        }
        return rule == PREVIOUS ? earlier.last : valueBetween(earlier, next, begin);
    }

    // ---- windows

    public int parts(int from, int to) throws IllegalArgumentException {
        needWindow(from, to, MINUTE);
        window.cut(from, to);
        return window.countParts();
    }

    public boolean isKnown(int from, int to) throws IllegalArgumentException {
        needWindow(from, to, MINUTE);
        window.cut(from, to);
        return !window.hasExpiredPart(horizon);
    }

    public long total(int series, int from, int to)
            throws IndexOutOfBoundsException, IllegalArgumentException, IllegalStateException {
        Series asked = seriesAt(series);
        needWindow(from, to, MINUTE);
        summarize(asked, from, to);
        return summary.sum;
    }

    public long totalByPoints(int series, int from, int to)
            throws IndexOutOfBoundsException, IllegalArgumentException, IllegalStateException {
        Series asked = seriesAt(series);
        needWindow(from, to, MINUTE);
        if (from < horizon[POINTS]) {
            throw new IllegalStateException("points of the window may have expired");
        }
        summary.clear();
        asked.points.addTo(summary, from, to);
        return summary.sum;
    }

    public long increase(int series, int from, int to)
            throws IndexOutOfBoundsException, IllegalArgumentException, IllegalStateException {
        Series asked = seriesAt(series);
        needWindow(from, to, MINUTE);
        return increaseIn(asked, from, to);
    }

    public double ratePerHour(int series, int from, int to)
            throws IndexOutOfBoundsException, IllegalArgumentException, IllegalStateException {
        Series asked = seriesAt(series);
        needWindow(from, to, MINUTE);
        if (from == to) {
            throw new IllegalArgumentException("the window is empty");
        }
        return (double) increaseIn(asked, from, to) * 3600.0 / (double) (to - from);
    }

    public int gaps(int series, int tier, int from, int to)
            throws IndexOutOfBoundsException, IllegalArgumentException {
        Rollups asked = rollupsAt(series, tier, 0);
        needWindow(from, to, lengthOf(tier));
        // The stretch that holds the horizon is the first one that has not expired.
        int start = Math.max(from, beginOf(tier, horizon[tier]));
        if (start >= to) {
            return 0;
        }
        int stretches = (to - start) / lengthOf(tier);
        return stretches - (asked.placeFrom(to) - asked.placeFrom(start));
    }

    // ---- what the calls need

    private Series seriesAt(int series) {
        Series found = series < 0 || series >= howMany ? null : kept[series];
        if (found == null) {
            throw new IndexOutOfBoundsException("there is no such series");
        }
        return found;
    }

    private static void needRange(int number, int least, int most) {
        if (number < least || number > most) {
            throw new IllegalArgumentException("an argument is out of range");
        }
    }

    private static void needWindow(int from, int to, int length) {
        if (from < 0 || to < from || length < 1 || from % length != 0 || to % length != 0) {
            throw new IllegalArgumentException("from or to is out of range");
        }
    }

    private boolean isPoint(Series written, int time, int value) {
        int leastValue = written.kind == COUNTER ? 0 : -MOST_VALUE;
        return time >= 0 && time <= clock && value >= leastValue && value <= MOST_VALUE;
    }

    private void needPoint(Series written, int time, int value) {
        if (!isPoint(written, time, value)) {
            throw new IllegalArgumentException("time or value is out of range");
        }
    }

    private boolean isTooOld(int time) {
        return time < clock - MOST_AGE;
    }

    private boolean hasPlace(Series written, int time) {
        Points points = written.points;
        return !isTooOld(time) && (points.kept < MOST_POINTS || points.isAt(points.placeFrom(time), time));
    }

    private void needPlace(Series written, int time) {
        if (!hasPlace(written, time)) {
            throw new IllegalStateException("the time is too old, or the series is full");
        }
    }

    private static int timeOfPoint(Points points, int place) {
        if (place < 0 || place >= points.kept) {
            throw new IllegalStateException("there is no such place");
        }
        return points.times[place];
    }

    private static int placeOfPoint(Series asked, int time) {
        int place = asked.points.placeFrom(time);
        if (!asked.points.isAt(place, time)) {
            throw new IllegalStateException("there is no point at this time");
        }
        return place;
    }

    private Rollups rollupsAt(int series, int tier, int time) {
        Series asked = seriesAt(series);
        needRange(tier, MINUTES, DAYS);
        if (time < 0) {
            throw new IllegalArgumentException("time is below 0");
        }
        return asked.rollupsOf(tier);
    }

    private Rollup rollupOrNull(int series, int tier, int time) {
        return rollupsAt(series, tier, time).find(beginOf(tier, time));
    }

    private Rollup rollupAt(int series, int tier, int time) {
        Rollup found = rollupOrNull(series, tier, time);
        if (found == null) {
            throw new IllegalStateException("there is no rollup");
        }
        return found;
    }

    private static int lengthOf(int tier) {
        return tier == DAYS ? DAY : tier == HOURS ? HOUR : MINUTE;
    }

    private static int beginOf(int tier, int time) {
        return time - time % lengthOf(tier);
    }

    private static int valueBetween(Rollup earlier, Rollup later, int begin) {
        long difference = later.last - earlier.last;
        long seconds = Math.max(1, later.begin - earlier.begin);
        return (int) (earlier.last + difference * (begin - earlier.begin) / seconds);
    }

    private int moveHorizon(int tier) {
        horizon[tier] = Math.max(horizon[tier], clock - retention[tier]);
        int expired = 0;
        for (int series = 0; series < howMany; series++) {
            expired += seriesAt(series).expire(tier, horizon[tier]);
        }
        return expired;
    }

    private void summarize(Series asked, int from, int to) {
        window.cut(from, to);
        if (window.hasExpiredPart(horizon)) {
            throw new IllegalStateException("the window is not known");
        }
        summary.clear();
        asked.addTo(summary, window);
    }

    private long increaseIn(Series asked, int from, int to) {
        if (asked.kind != COUNTER) {
            throw new IllegalStateException("the series is a gauge");
        }
        summarize(asked, from, to);
        return summary.increase;
    }

    /** What is told of the points of a stretch or of a window, gathered in the order of their times. */
    private static final class Rollup {
        int begin;
        int count;
        long sum;
        int least;
        int greatest;
        int first;
        int last;
        long increase;

        void clear() {
            count = 0;
            sum = 0;
            increase = 0;
        }

        void addPoint(int value) {
            join(1, value, value);
            least = count == 1 ? value : Math.min(least, value);
            greatest = count == 1 ? value : Math.max(greatest, value);
            sum += value;
        }

        void addRollup(Rollup later) {
            boolean isFirst = count == 0;
            join(later.count, later.first, later.last);
            least = isFirst ? later.least : Math.min(least, later.least);
            greatest = isFirst ? later.greatest : Math.max(greatest, later.greatest);
            sum += later.sum;
            increase += later.increase;
        }

        private void join(int many, int laterFirst, int laterLast) {
            if (count == 0) {
                first = laterFirst;
            } else {
                increase += laterFirst < last ? laterFirst : laterFirst - last;
            }
            last = laterLast;
            count += many;
        }
    }

    /** The points that a series keeps, in the order of their times. */
    private static final class Points {
        final int[] times = new int[MOST_POINTS];
        final int[] values = new int[MOST_POINTS];
        int kept;

        /** The place of the first point that is not earlier. */
        int placeFrom(int time) {
            int place = 0;
            for (int leap = 64; leap > 0; leap >>= 1) {
                if (place + leap <= kept && times[place + leap - 1] < time) {
                    place += leap;
                }
            }
            return place;
        }

        boolean isAt(int place, int time) {
            return place >= 0 && place < kept && times[place] == time;
        }

        boolean write(int time, int value) {
            int place = placeFrom(time);
            boolean replaced = isAt(place, time);
            if (!replaced && kept < MOST_POINTS) {
                System.arraycopy(times, place, times, place + 1, kept - place);
                System.arraycopy(values, place, values, place + 1, kept - place);
                times[place] = time;
                kept++;
            }
            if (isAt(place, time)) {
                values[place] = value;
            }
            return replaced;
        }

        void remove(int place, int many) {
            if (place < 0 || many < 1 || many > kept - place) {
                return;
            }
            System.arraycopy(times, place + many, times, place, kept - place - many);
            System.arraycopy(values, place + many, values, place, kept - place - many);
            kept -= many;
        }

        int expire(int horizon) {
            int expired = placeFrom(horizon);
            remove(0, expired);
            return expired;
        }

        void addTo(Rollup summary, int from, int to) {
            for (int place = placeFrom(from); place < kept && times[place] < to; place++) {
                summary.addPoint(values[place]);
            }
        }
    }

    /** The rollups of one tier that a series keeps, in the order of their times. */
    private static final class Rollups {
        final int length;
        // Behind the rows that are kept stand those that were removed, to be used again.
        Rollup[] rows = new Rollup[8];
        int kept;

        Rollups(int length) {
            this.length = length;
        }

        /** The place of the first rollup that does not begin earlier. */
        int placeFrom(int time) {
            int place = 0;
            for (int leap = MOST_ROWS; leap > 0; leap >>= 1) {
                Rollup row = rowOrNull(place + leap - 1);
                if (row != null && row.begin < time) {
                    place += leap;
                }
            }
            return place;
        }

        Rollup rowOrNull(int place) {
            return place < 0 || place >= kept ? null : rows[place];
        }

        Rollup find(int begin) {
            Rollup found = rowOrNull(placeFrom(begin));
            return found != null && found.begin == begin ? found : null;
        }

        /** The rollup that begins there, a new one if there is none; null if there is no place for it. */
        Rollup findOrMake(int begin) {
            int place = placeFrom(begin);
            Rollup found = rowOrNull(place);
            if (found != null && found.begin == begin) {
                return found;
            }
            if (kept >= MOST_ROWS) {
                return null;
            }
            makeRoom();
            Rollup made = rows[kept] == null ? new Rollup() : rows[kept];
            for (int moved = kept; moved > place; moved--) {
                rows[moved] = rows[moved - 1];
            }
            rows[place] = made;
            made.begin = begin;
            kept++;
            return made;
        }

        private void makeRoom() {
            if (kept < rows.length) {
                return;
            }
            Rollup[] longer = new Rollup[Math.min(2 * rows.length, MOST_ROWS)];
            for (int place = 0; place < kept; place++) {
                longer[place] = rows[place];
            }
            rows = longer;
        }

        void remove(int place, int many) {
            if (place < 0 || many < 1 || many > kept - place) {
                return;
            }
            for (int moved = place + many; moved < kept; moved++) {
                Rollup removed = rows[moved - many];
                rows[moved - many] = rows[moved];
                rows[moved] = removed;
            }
            kept -= many;
        }

        int expire(int horizon) {
            int expired = placeFrom(horizon - length + 1);
            remove(0, expired);
            return expired;
        }

        void addTo(Rollup summary, int from, int to) {
            for (int place = placeFrom(from); place < kept; place++) {
                Rollup row = rowOrNull(place);
                if (row == null || row.begin >= to) {
                    return;
                }
                summary.addRollup(row);
            }
        }
    }

    /** A series with its points and its rollups. */
    private static final class Series {
        final int kind;
        final Points points = new Points();
        final Rollups minutes = new Rollups(MINUTE);
        final Rollups hours = new Rollups(HOUR);
        final Rollups days = new Rollups(DAY);

        Series(int kind) {
            this.kind = kind;
        }

        Rollups rollupsOf(int tier) {
            return tier == DAYS ? days : tier == HOURS ? hours : minutes;
        }

        int rowsOf(int tier) {
            return tier == POINTS ? points.kept : rollupsOf(tier).kept;
        }

        int expire(int tier, int horizon) {
            return tier == POINTS ? points.expire(horizon) : rollupsOf(tier).expire(horizon);
        }

        boolean write(int time, int value) {
            boolean replaced = points.write(time, value);
            refresh(time);
            return replaced;
        }

        void erasePoint(int place, int time) {
            points.remove(place, 1);
            refresh(time);
        }

        // A point is written or erased at most 3600 seconds late. By the least retentions the points of
        // its minute, the minutes of its hour and the hours of its day are then all still kept: so each
        // rollup comes whole from the next finer rows, also when points of it have expired.
        private void refresh(int time) {
            for (int tier = MINUTES; tier <= DAYS; tier++) {
                refreshRollup(tier, beginOf(tier, time));
            }
        }

        private void refreshRollup(int tier, int begin) {
            Rollups rollups = rollupsOf(tier);
            Rollup fresh = rollups.findOrMake(begin);
            if (fresh == null) {
                return;
            }
            fresh.clear();
            int end = begin + rollups.length;
            if (tier == MINUTES) {
                points.addTo(fresh, begin, end);
            } else {
                rollupsOf(tier - 1).addTo(fresh, begin, end);
            }
            if (fresh.count == 0) {
                rollups.remove(rollups.placeFrom(begin), 1);
            }
        }

        void addTo(Rollup summary, Window window) {
            minutes.addTo(summary, window.from, window.hoursFrom);
            hours.addTo(summary, window.hoursFrom, window.daysFrom);
            days.addTo(summary, window.daysFrom, window.daysTo);
            hours.addTo(summary, window.daysTo, window.hoursTo);
            minutes.addTo(summary, window.hoursTo, window.to);
        }
    }

    /** A window, taken apart into minutes, hours, days, hours and minutes, in this order of times. */
    private static final class Window {
        int from;
        int hoursFrom;
        int daysFrom;
        int daysTo;
        int hoursTo;
        int to;

        void cut(int windowFrom, int windowTo) {
            from = windowFrom;
            to = windowTo;
            cutHours(to, to);
            long firstHour = roundUp(from, HOUR);
            int hoursEnd = to - to % HOUR;
            if (firstHour >= hoursEnd) {
                return;
            }
            cutHours((int) firstHour, hoursEnd);
            long firstDay = roundUp(from, DAY);
            int daysEnd = to - to % DAY;
            if (firstDay < daysEnd) {
                daysFrom = (int) firstDay;
                daysTo = daysEnd;
            }
        }

        private void cutHours(int begin, int end) {
            hoursFrom = begin;
            daysFrom = end;
            daysTo = end;
            hoursTo = end;
        }

        // A time near the greatest int has its next multiple beyond it.
        private static long roundUp(int time, int length) {
            long up = (long) time + length - 1;
            return length < 1 ? time : up - up % length;
        }

        int countParts() {
            int minutes = (hoursFrom - from) / MINUTE + (to - hoursTo) / MINUTE;
            int hours = (daysFrom - hoursFrom) / HOUR + (hoursTo - daysTo) / HOUR;
            return minutes + hours + (daysTo - daysFrom) / DAY;
        }

        boolean hasExpiredPart(int[] horizon) {
            return isFirstExpired(from, hoursFrom, MINUTE, horizon[MINUTES])
                    || isFirstExpired(hoursFrom, daysFrom, HOUR, horizon[HOURS])
                    || isFirstExpired(daysFrom, daysTo, DAY, horizon[DAYS])
                    || isFirstExpired(daysTo, hoursTo, HOUR, horizon[HOURS])
                    || isFirstExpired(hoursTo, to, MINUTE, horizon[MINUTES]);
        }

        private static boolean isFirstExpired(int begin, int end, int length, int horizon) {
            return begin < end && begin + length <= horizon;
        }
    }
}
