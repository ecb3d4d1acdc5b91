/**
 * Far more calls than an object is made for, with all kinds of arguments: the answers are free there, but no call
 * throws anything other than the document's three exceptions.
 */
public final class Endless {
    private static final Check T = new Check("Endless");
    private static final int[] ODD = {0, 1, -1, 2, 3, 4, 60, 3600, 86400, 7200, 90000, 100000000, 1000000, -1000000, 2147483640,
        Integer.MAX_VALUE, Integer.MIN_VALUE, Integer.MAX_VALUE - 60, Integer.MIN_VALUE + 1};

    private long drawn = 5;

    public static void main(String[] args) {
        fullTiers();
        for (int style = 0; style < 3; style++) {
            new Endless().drawnCalls(style);
        }
        T.end();
    }

    private static void fullTiers() {
        RollupStore x = new RollupStore();
        x.addSeries(RollupStore.COUNTER);
        for (int tier = RollupStore.MINUTES; tier <= RollupStore.DAYS; tier++) {
            x.setRetention(tier, 100000000);
        }
        for (int round = 0; round < 300; round++) {
            x.advance(7260);
            for (int part = 0; part < 3; part++) {
                int from = x.clock() - 3600 + 1200 * part;
                T.is("minutes of round " + round, () -> x.putMany(0, from, 1, 60, 1, 20), 20);
            }
        }
        T.is("as many as there may be", () -> x.rows(0, RollupStore.MINUTES), 16384);
        T.is("all are summed", () -> x.total(0, 0, 2147483640) >= 0, true);
        T.is("and expire", () -> x.advance(1000000) > 0, true);
    }

    private void drawnCalls(int style) {
        RollupStore x = new RollupStore();
        for (int call = 0; call < 100000; call++) {
            int which = below(28);
            int[] a = {below(5), argument(x), argument(x), argument(x), argument(x), argument(x)};
            if (which == 4 && style == 1) {
                a[1] = 1000000;
            }
            int near = x.clock() - below(3601);
            if (which <= 3 && style != 2) {
                a[1] = near;
            }
            String answer = Check.answerOf(() -> answer(x, which, a));
            boolean isFree = !answer.endsWith("Exception") || answer.equals(Check.BOUNDS) || answer.equals(Check.ARGUMENT)
                    || answer.equals(Check.STATE);
            T.is("call " + call + " of kind " + which + " " + java.util.Arrays.toString(a) + " answers " + answer,
                    () -> isFree, true);
        }
    }

    private static Object answer(RollupStore x, int which, int[] a) {
        return switch (which) {
            case 0 -> x.addSeries(a[0]);
            case 1 -> x.put(a[0], a[1], a[2]);
            case 2 -> x.putMany(a[0], a[1], a[2] % 1000, 1 + (a[3] & 63), a[4] % 1001, 1 + (a[5] & 15));
            case 3 -> x.erase(a[0], a[1]);
            case 4 -> x.advance(a[1]);
            case 5 -> x.setRetention(a[0], a[1]);
            case 6 -> x.clock() + x.series();
            case 7 -> x.horizon(a[1]);
            case 8 -> x.rows(a[0], a[1]);
            case 9 -> x.timeOf(a[0], a[1], a[2]);
            case 10 -> x.valueAt(a[0], a[1]);
            case 11 -> x.hasRollup(a[0], a[1], a[2]);
            case 12 -> x.count(a[0], a[1], a[2]);
            case 13 -> x.sum(a[0], a[1], a[2]);
            case 14 -> x.average(a[0], a[1], a[2]);
            case 15 -> x.least(a[0], a[1], a[2]);
            case 16 -> x.greatest(a[0], a[1], a[2]);
            case 17 -> x.first(a[0], a[1], a[2]);
            case 18 -> x.last(a[0], a[1], a[2]);
            case 19, 20 -> x.filled(a[0], a[1], a[2], a[3]);
            case 21 -> x.parts(a[1], a[2]);
            case 22 -> x.isKnown(a[1], a[2]);
            case 23 -> x.total(a[0], a[1], a[2]);
            case 24 -> x.totalByPoints(a[0], a[1], a[2]);
            case 25 -> x.increase(a[0], a[1], a[2]);
            case 26 -> x.ratePerHour(a[0], a[1], a[2]);
            default -> x.gaps(a[0], a[1], a[2], a[3]);
        };
    }

    private int argument(RollupStore x) {
        int near = x.clock() - below(10000);
        int[] choices = {ODD[below(ODD.length)], below(4), near, near - near % 60, near - near % 86400, below(2000000)};
        return choices[below(choices.length)];
    }

    private int below(int bound) {
        drawn = drawn * 6364136223846793005L + 1442695040888963407L;
        return (int) ((drawn >>> 33) % bound);
    }
}
