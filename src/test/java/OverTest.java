/** Promises 17 to 19: one VOLUME LAID OVER another. */
public final class OverTest {
    /** All WAYS from all PLACES: east and west round the island, north and south to the PLACE itself. */
    private static final String FULL_ISLAND = """
        way(0, 1, 1, 5) = 1
        way(1, 1, 2, 5) = 1
        way(2, 1, 3, 5) = 1
        way(3, 1, 4, 5) = 1
        way(4, 1, 5, 5) = 1
        way(5, 1, 0, 5) = 1
        way(0, 0, 0, 50) = 1
        way(1, 0, 1, 50) = 1
        way(2, 0, 2, 50) = 1
        way(3, 0, 3, 50) = 1
        way(4, 0, 4, 50) = 1
        way(5, 0, 5, 50) = 1
        """;

    /** SHEET 2 is the row 0 .. 5, with one number more that doesn't matter. */
    private static final String ROW = """
        sheet(2, 8, 7) = 1
        put(2, 1, 1) = 1
        put(2, 2, 2) = 1
        put(2, 3, 3) = 1
        put(2, 4, 4) = 1
        put(2, 5, 5) = 1
        put(2, 6, 77) = 1
        """;

    public static void main(String[] args) {
        best();
        fits();
        over();
        Script.end();
    }

    private static void best() {
        Script.run("17: best", """
            best(0, 1, 0) = 0
            best(0, 1, 1) = 0
            best(0, 1, 2) = 0
            best(0, 1, 3) = 0
            best(0, 1, 8) = 5
            way(0, 1, 1, 5) = 1
            best(0, 1, 1) = 2
            best(0, 1, 2) = 0
            best(0, 1, 3) = 0
            swap(1, 0, 5) = 5
            best(0, 1, 0) = 0
            best(0, 1, 1) = 2            # the most FOR, ahead of the least row
            best(0, 1, 2) = 0
            best(0, 1, 3) = 5
            best(0, 1, 4) = 1
            best(0, 1, 5) = 0
            best(0, 1, 6) = 2
            best(0, 1, 7) = 3
            best(0, 1, 8) = 4
            best(1, 0, 3) = 2            # SPOTS 1 and 5 are to be on 1 and 0
            best(1, 0, 4) = 1
            best(1, 0, 8) = 0
            best(1, 1, 3) = 0
            volume(2, 21) = 0
            best(0, 2, 1) = 2
            best(0, 2, 2) = 1
            best(0, 2, 3) = 0
            best(2, 0, 2) = 1            # by a turn of 1 or 3 alike
            best(2, 0, 3) = 1
            best(2, 0, 4) = 0
            volume(2, 22) = 21
            best(0, 2, 2) = 0            # the least turn, ahead of the least row
            best(0, 2, 3) = 1
            best(0, 2, 4) = 0
            volume(3, 39) = 0            # LIED: both ends bend
            best(0, 3, 0) = 0
            best(0, 3, 1) = 0
            best(0, 3, 2) = 0
            best(0, 3, 3) = 1
            best(0, 3, 4) = 0
            best(0, 3, 5) = 2
            best(3, 3, 1) = 2
            best(3, 3, 3) = 0
            """);
        Script.run("17: best, all of it against or for", FULL_ISLAND + """
            volume(1, 39) = 0            # LIED: east and west bend
            best(0, 1, 0) = 12
            best(0, 1, 1) = 12
            best(0, 1, 2) = 0
            best(0, 1, 8) = 5
            best(0, 0, 0) = 0
            best(0, 0, 1) = 24
            fits(0, 1, 11) = 0
            fits(0, 1, 12) = 2880
            """);
        Script.run("17: best, 24 against it however it is laid", Islands.RINGS + """
            swap(2, 0, 5) = 5
            best(0, 2, 3) = 0            # of the six ways round the ring the least
            best(0, 2, 4) = 5
            best(0, 2, 5) = 1
            volume(1, 39) = 0
            best(0, 1, 0) = 24
            best(0, 1, 1) = 0
            best(0, 1, 2) = 0
            best(0, 1, 3) = 0
            best(0, 1, 8) = 5
            fits(0, 1, 23) = 0
            fits(0, 1, 24) = 2880
            """);
        Script.run("17: best, wrong", """
            best(-1, 0, 0) = BEYOND
            best(4, 0, 0) = BEYOND
            best(0, -1, 0) = BEYOND
            best(0, 4, 0) = BEYOND
            best(0, 0, -1) = BEYOND
            best(0, 0, 9) = BEYOND
            """);
    }

    private static void fits() {
        Script.run("18: fits", """
            fits(0, 0, 0) = 2880
            way(0, 1, 1, 5) = 1
            fits(0, 1, 0) = 2496
            fits(0, 1, 1) = 2880
            fits(0, 1, 24) = 2880
            lacks(1, 0, 1) = 1
            fits(0, 1, 0) = 2880
            fits(0, 1, -1) = BEYOND
            fits(0, 1, 25) = BEYOND
            fits(-1, 1, 0) = BEYOND
            fits(4, 1, 0) = BEYOND
            fits(0, -1, 0) = BEYOND
            fits(0, 4, 0) = BEYOND
            """);
        Script.run("18: fits, of few rows", FULL_ISLAND + """
            fits(0, 0, 0) = 12           # by turns of 0 and 2, round the ring in six ways each
            fits(0, 0, 24) = 2880
            """);
    }

    private static void over() {
        Script.run("19: over", ROW + """
            way(0, 1, 1, 5) = 1
            way(2, 0, 3, 5) = 1
            over(0, 1, 0, 2, 0) = 0
            over(0, 1, 0, 2, 1) = 4
            over(0, 1, 1, 2, 0) = 0
            over(0, 1, 1, 2, 1) = 0
            put(2, 0, 1) = 1
            put(2, 1, 0) = 1
            over(0, 1, 0, 2, 1) = 2
            over(0, 1, 2, 2, 1) = 2
            put(2, 0, 5) = 1
            put(2, 1, 1) = 1
            put(2, 5, 0) = 1
            over(0, 1, 0, 2, 0) = 1      # west of 1 leads to 0, not to 5
            over(0, 1, 0, 2, 1) = 2
            swap(1, 0, 5) = 5
            over(0, 1, 0, 2, 0) = 0
            over(0, 1, 0, 2, 1) = 4
            volume(0, 21) = 0
            over(0, 1, 3, 2, 1) = 4      # its ways are one further on
            over(0, 1, 0, 2, 1) = 0
            """);
        Script.run("19: over, wrong", ROW + """
            over(-1, 1, 0, 2, 0) = BEYOND
            over(4, 1, 0, 2, 0) = BEYOND
            over(0, -1, 0, 2, 0) = BEYOND
            over(0, 4, 0, 2, 0) = BEYOND
            over(0, 1, -1, 2, 0) = BEYOND
            over(0, 1, 4, 2, 0) = BEYOND
            over(0, 1, 0, -1, 0) = BEYOND
            over(0, 1, 0, 4, 0) = BEYOND
            over(0, 1, 0, 2, -1) = BEYOND
            over(0, 1, 0, 2, 2) = BEYOND
            over(0, 1, 0, 3, 0) = NONE
            over(0, 1, 0, 3, 2) = BEYOND # asked ahead of NONE
            sheet(3, 8, 5) = 1
            over(0, 1, 0, 3, 0) = STATE
            over(0, 1, 4, 3, 0) = BEYOND # and of STATE
            sheet(3, 8, 6) = 1
            over(0, 1, 0, 3, 0) = STATE
            put(2, 0, 3) = 1
            over(0, 1, 0, 2, 0) = STATE
            put(2, 0, 6) = 1
            over(0, 1, 0, 2, 0) = STATE
            put(2, 0, -1) = 1
            over(0, 1, 0, 2, 0) = STATE
            put(2, 0, 32) = 1            # bit 0, if it were shifted as it is
            over(0, 1, 0, 2, 0) = STATE
            put(2, 0, 256) = 1
            over(0, 1, 0, 2, 0) = 0
            sheet(1, 8, 6) = 1
            move(2, 0, 1, 0, 6) = 6
            over(0, 1, 0, 1, 0) = 0      # six are enough
            """);
    }
}
