/** Scripts of WAYS that come, ahead of others. */
final class Islands {
    /** Twelve WAYS take all that there is: north round THE ISLAND, east from each PLACE to itself. */
    static final String FULL = """
        way(0, 0, 1, 99) = 1
        way(1, 0, 2, 1) = 1
        way(2, 0, 3, 50) = 1
        way(3, 0, 4, 50) = 1
        way(4, 0, 5, 50) = 1
        way(5, 0, 0, 50) = 1
        way(0, 1, 0, 49) = 1
        way(1, 1, 1, 49) = 1
        way(2, 1, 2, 49) = 1
        way(3, 1, 3, 49) = 1
        way(4, 1, 4, 49) = 1
        way(5, 1, 5, 49) = 1
        """;

    /** East from each PLACE is the next one. */
    static final String RING = """
        way(0, 1, 1, 1) = 1
        way(1, 1, 2, 1) = 1
        way(2, 1, 3, 1) = 1
        way(3, 1, 4, 1) = 1
        way(4, 1, 5, 1) = 1
        way(5, 1, 0, 1) = 1
        """;

    /** All 24 WAYS, none from a PLACE to itself: two rings, all of it 5 long. */
    static final String RINGS = """
        way(0, 1, 1, 5) = 1
        way(1, 1, 2, 5) = 1
        way(2, 1, 3, 5) = 1
        way(3, 1, 4, 5) = 1
        way(4, 1, 5, 5) = 1
        way(5, 1, 0, 5) = 1
        way(0, 0, 2, 5) = 1
        way(1, 0, 3, 5) = 1
        way(2, 0, 4, 5) = 1
        way(3, 0, 5, 5) = 1
        way(4, 0, 0, 5) = 1
        way(5, 0, 1, 5) = 1
        """;

    private Islands() {
    }
}
