/** Each sentence of the document that names a boundary case has a test of its own, named after its place and its words. */
public final class Boundaries extends Boundary {
    public static void main(String[] args) {
        BoundariesOfTerms.all();
        BoundariesOfRetention.all();
        BoundariesOfWindowParts.all();
        BoundariesOfExceptions.all();
        BoundariesOfWriting.all();
        BoundariesOfPutMany.all();
        BoundariesOfTime.all();
        BoundariesOfRows.all();
        BoundariesOfRollups.all();
        BoundariesOfWindows.all();
        sentencesWithoutBoundary();
        T.end();
    }

    private static void sentencesWithoutBoundary() {
        T.none("What it is", "A store of time series with rollups by minute, hour and day.");
        // What stands under it is what Face compares.
        T.noneUnder("The public face");
        T.none("Terms", "Points come in, also late ones and corrections", "each rollup is kept as the summary of its points",
                "Windows of time are summed from as few rollups as possible, and once more from the points",
                "gaps are filled by rule", "counters that were reset in between tell how much they have risen",
                "Time, series, points", "Time is told in seconds");
        T.none("Exceptions", "IllegalStateException: as the method says.", "Ahead of the calls addSeries",
                "Ahead of the calls clock", "Ahead of the calls hasRollup", "Ahead of the calls parts");
        T.noneUnder("Not promised");
    }
}
