import java.util.Arrays;

/** Compares answers for the promises: what is compared is told by its promise's number and a few words. */
final class Numbered {
    private static final int PROMISES = 29;

    private final Check check;
    private final int[] compared = new int[PROMISES + 1];

    Numbered(Check check) {
        this.check = check;
    }

    void is(String what, Check.Call call, Object due) {
        check.is(named(what), call, due);
    }

    void refuses(String what, Store store, Check.StoreCall call, Object due) {
        check.refuses(named(what), store, call, due);
    }

    private String named(String what) {
        String[] numberAndWords = what.split(" ", 2);
        compared[Integer.parseInt(numberAndWords[0])]++;
        return "Promise " + numberAndWords[0] + ": " + numberAndWords[1];
    }

    /** Every promise must have had a comparison of its own. */
    void end() {
        for (int promise = 1; promise <= PROMISES; promise++) {
            int of = promise;
            check.is("Promise " + of + " has a test", () -> compared[of] > 0, true);
        }
        System.out.println("Promises: compared for each, from Promise 1 to Promise " + PROMISES + ": "
                + Arrays.toString(Arrays.copyOfRange(compared, 1, PROMISES + 1)));
        check.end();
    }
}
