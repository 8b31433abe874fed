/** One VOLUME LAID OVER another, and promises 17 to 19. */
final class OverEdges {
    /** SHEET 2 is the row 0 .. 5. */
    private static final String ROW = """
        sheet(2, 8, 6) = 1
        put(2, 1, 1) = 1
        put(2, 2, 2) = 1
        put(2, 3, 3) = 1
        put(2, 4, 4) = 1
        put(2, 5, 5) = 1
        """;
    private static final String BEST =
        "BEST: the least AGAINST, of several the most FOR, then the least turn, then the least row.";

    private OverEdges() {
    }

    static void run() {
        laidOver();
        bestOfAll();
        best();
        fits();
        over();
        wrongRows();
    }

    private static void laidOver() {
        Edges.terms("LAID OVER: VOLUME a is laid over VOLUME b by a row of SPOTS of b (each once), for SPOTS 0 .. 5 "
            + "of a, and a turn t (0 .. 3): a WAY d of a is the WAY (d+t) modulo 4 of b there.", ROW + """
            way(0, 3, 5, 7) = 1          # 3, and 1 back
            volume(1, 23) = 0            # names them 2 and 0
            over(0, 1, 3, 2, 1) = 2      # 3 and 3, modulo 4; 1 and 3, modulo 4
            over(0, 1, {0 1 2}, 2, 1) = 0
            over(1, 0, 1, 2, 1) = 2      # 2 and 1; 0 and 1
            over(1, 0, {0 2 3}, 2, 1) = 0
            over(0, 1, {-1 4}, 2, 1) = BEYOND
            swap(1, 0, 5) = 5
            over(0, 1, 3, 2, 1) = 0
            put(2, 0, 5) = 1
            put(2, 5, 0) = 1
            over(0, 1, 3, 2, 1) = 2      # SPOT 0 of a is 5 of b
            put(2, 0, 0) = 1
            over(0, 1, 3, 2, 1) = STATE  # 0 twice
            """);
        Edges.terms("AGAINST it is each SPOT and way of a of which both SAY something, but not the same SPOT "
            + "(laid over); FOR it each of which both say the same.", ROW + """
            over(0, 1, 0, 2, {0 1}) = 0  # neither says anything
            way(0, 1, 1, 9) = 1
            way(2, 1, 3, 10) = 1
            volume(1, 39) = 0            # LIED: bends the first
            over(0, 1, 0, 2, 0) = 2
            over(0, 1, 0, 2, 1) = 2
            lacks(0, 0, 1) = 1           # of that a says nothing
            over(0, 1, 0, 2, 0) = 0
            over(0, 1, 0, 2, 1) = 2
            lacks(1, 2, 1) = 1           # and b of the other
            over({0 1}, 1, 0, 2, 0) = 0
            over(0, 1, 0, 2, 1) = 0
            over(1, 1, 0, 2, 1) = 2
            """);
        Edges.terms("AGAINST it is each SPOT and way of a of which both SAY something, but not the same SPOT "
            + "(laid over); FOR it each of which both say the same.", ROW + Islands.RINGS + """
            volume(1, 39) = 0            # LIED: bends all
            over(0, 1, {0 1 2 3}, 2, 0) = 24
            over(0, 1, {0 1 2 3}, 2, 1) = 0
            over(0, 0, 0, 2, 0) = 0
            over(0, 0, 0, 2, 1) = 24
            over(1, 1, {0 1 2 3}, 2, 1) = 24
            """);
    }

    private static void bestOfAll() {
        Edges.terms(BEST, """
            best(0, 1, {0 1 2 3}) = 0    # nothing said: turn 0, row 0 1 2 3 4 5
            best(0, 1, 4) = 1
            best(0, 1, 5) = 2
            best(0, 1, 6) = 3
            best(0, 1, 7) = 4
            best(0, 1, 8) = 5
            """);
        Edges.terms(BEST, Islands.RINGS + """
            volume(1, 39) = 0
            best(0, 1, 0) = 24           # the greatest AGAINST
            best(0, 1, {1 2 3}) = 0
            best(0, 1, 8) = 5
            best(0, 0, {0 2 3}) = 0
            best(0, 0, 1) = 24           # the greatest FOR
            best(0, 0, 4) = 1
            best(0, 0, 8) = 5
            swap(2, 0, 5) = 5
            best(0, 2, 0) = 0
            best(0, 2, 1) = 24
            best(0, 2, 2) = 0            # the six ways round the ring, and back by a turn of 2
            best(0, 2, 3) = 0
            best(0, 2, 4) = 5
            best(0, 2, 5) = 1
            best(0, 2, 8) = 4
            """);
        Edges.terms(BEST, """
            way(0, 1, 1, 5) = 1
            way(1, 1, 2, 5) = 1
            way(2, 1, 3, 5) = 1
            way(3, 1, 4, 5) = 1
            way(4, 1, 5, 5) = 1
            swap(1, 0, 5) = 5
            swap(1, 1, 4) = 4
            swap(1, 2, 3) = 3
            best(0, 1, 1) = 10
            best(0, 1, 2) = 0            # the greatest row of all, ahead of the least one by a turn of 2
            best(0, 1, 3) = 5
            best(0, 1, 4) = 4
            best(0, 1, 5) = 3
            best(0, 1, 6) = 2
            best(0, 1, 7) = 1
            best(0, 1, 8) = 0
            """);
        Edges.terms("BEST: the least AGAINST, of several the most FOR", """
            way(0, 1, 1, 5) = 1
            way(1, 1, 2, 5) = 1
            way(3, 1, 3, 5) = 1
            volume(1, 39) = 0            # LIED: bends all of these
            best(0, 1, {0 2}) = 0        # as many rows have it that none is against
            best(0, 1, 1) = 2            # with 3 on 1 or 3: it leads to itself
            best(0, 1, 3) = 2
            best(0, 1, 4) = 4
            best(0, 1, 5) = 0
            best(0, 1, 6) = 1
            best(0, 1, 7) = 3
            best(0, 1, 8) = 5
            """);
        Edges.terms("then the least turn, then the least row.", """
            way(1, 0, 4, 5) = 1
            volume(1, 22) = 0            # names it 2
            best(0, 1, 1) = 2
            best(0, 1, 2) = 0            # by a turn of 0 with 1 and 4 changed, ahead of one of 2 without
            best(0, 1, 3) = 0
            best(0, 1, 4) = 4
            best(0, 1, 5) = 2
            best(0, 1, 6) = 3
            best(0, 1, 7) = 1
            best(0, 1, 8) = 5
            volume(1, 21) = 22
            best(0, 1, 2) = 1            # 1 or 3
            best(0, 1, 4) = 1
            best(0, 1, 7) = 4
            volume(1, 23) = 21
            best(0, 1, 2) = 1            # 1 or 3, too
            best(0, 1, 4) = 4
            best(0, 1, 7) = 1
            """);
    }

    private static void best() {
        Edges.promise(17, "BEST of a over b (that may be one): what 0 AGAINST, 1 FOR, 2 the turn, 3 .. 8 the SPOT of b "
            + "for SPOT 0 .. 5.", """
            way(0, 1, 5, 7) = 1
            volume(3, 21) = 0
            swap(3, 5, 0) = 0
            best(0, 3, 0) = 0
            best(0, 3, 1) = 2
            best(0, 3, 2) = 1
            best(0, 3, 3) = 5
            best(0, 3, 4) = 1
            best(0, 3, 5) = 2
            best(0, 3, 6) = 3
            best(0, 3, 7) = 4
            best(0, 3, 8) = 0
            best(3, 3, {0 2 3}) = 0
            best(3, 3, 1) = 2
            best(3, 3, 8) = 5
            """);
        Edges.promise(17, "BEYOND.", """
            best({-1 4 MIN MAX}, 0, 0) = BEYOND
            best(0, {-1 4 MIN MAX}, 0) = BEYOND
            best(0, 0, {-1 9 MIN MAX}) = BEYOND
            best({-1 4}, {-1 4}, {-1 9}) = BEYOND
            best({0 3}, {0 3}, 0) = 0
            best({0 3}, {0 3}, 8) = 5
            """);
    }

    private static void fits() {
        Edges.terms("FITS by c: how many (of all 2880) have c AGAINST at most.", Islands.RINGS + """
            fits(0, 0, 24) = 2880
            volume(1, 39) = 0
            fits(0, 1, {0 1 22 23}) = 0
            fits(0, 1, 24) = 2880
            blast(5, 0) = 5              # two less each, that may fall together
            fits(0, 1, 19) = 0
            fits(0, 1, 22) = 2880
            """);
        Edges.promise(18, "FITS of a over b by c (0 .. 24).", """
            fits(0, 3, {0 24}) = 2880
            way(0, 1, 5, 7) = 1
            fits(0, 3, 0) = 2496         # all but those with one end there and the other elsewhere
            fits(0, 3, 1) = 2880
            fits(3, 3, 24) = 2880
            """);
        Edges.promise(18, "BEYOND.", """
            fits({-1 4 MIN MAX}, 0, 0) = BEYOND
            fits(0, {-1 4 MIN MAX}, 0) = BEYOND
            fits(0, 0, {-1 25 MIN MAX}) = BEYOND
            fits({-1 4}, {-1 4}, {-1 25}) = BEYOND
            fits({0 3}, {0 3}, {0 24}) = 2880
            """);
    }

    private static void over() {
        Edges.promise(19, "a over b by a turn and a SHEET, the row of six (numbers beyond don't matter): what 0 AGAINST, "
            + "1 FOR.", ROW + """
            way(5, 3, 0, 7) = 1
            over(0, 3, 0, 2, 0) = 0
            over(0, 3, 0, 2, 1) = 2
            over(3, 3, 3, 2, 1) = 0
            sheet(3, 8, 24) = 1
            move(2, 0, 3, 0, 6) = 6
            over(0, 3, 0, 3, 1) = 2      # with 0 again behind
            put(3, {6 23}, 99) = 1
            put(3, 7, -1) = 1
            over(0, 3, 0, 3, 1) = 2
            put(3, 0, 1) = 1
            put(3, 1, 0) = 1
            over(0, 3, 0, 3, 0) = 1      # west of 5 is 0, which is 1 here
            over(0, 3, 0, 3, 1) = 0
            """);
        Edges.promise(19, "BEYOND.", ROW + """
            over({-1 4 MIN MAX}, 0, 0, 2, 0) = BEYOND
            over(0, {-1 4 MIN MAX}, 0, 2, 0) = BEYOND
            over(0, 0, {-1 4 MIN MAX}, 2, 0) = BEYOND
            over(0, 0, 0, {-1 4 MIN MAX}, 0) = BEYOND
            over(0, 0, 0, 2, {-1 2 MIN MAX}) = BEYOND
            over({-1 4}, 0, 0, 1, 0) = BEYOND  # ahead of NONE
            over(0, {-1 4}, 0, 1, 0) = BEYOND
            over(0, 0, {-1 4}, 1, 0) = BEYOND
            over(0, 0, 0, 1, {-1 2}) = BEYOND
            sheet(0, 8, 0) = 1
            over({-1 4}, 0, 0, 0, 0) = BEYOND  # and of STATE
            over(0, 0, {-1 4}, 0, 0) = BEYOND
            over(0, 0, 0, 0, {-1 2}) = BEYOND
            over({-1 4}, {-1 4}, {-1 4}, {-1 4}, {-1 2}) = BEYOND
            over({0 3}, {0 3}, {0 3}, 2, {0 1}) = 0
            """);
        Edges.promise(19, "NONE: it is missing.", ROW + """
            over({0 3}, {0 3}, {0 3}, {0 3}, {0 1}) = NONE
            over(0, 0, 0, 2, 0) = 0
            sheet(2, 0, 6) = 1
            over(0, 0, 0, 2, 0) = NONE
            """);
    }

    private static void wrongRows() {
        Edges.promise(19, "STATE: less than six numbers, or these aren't SPOTS, each once.", ROW + """
            over(0, 0, 0, 2, 0) = 0
            sheet(1, 8, 5) = 1
            move(2, 0, 1, 0, 5) = 5
            over(0, 0, 0, 1, 0) = STATE
            sheet(1, 8, 0) = 1
            over(0, 0, 0, 1, 0) = STATE
            sheet(1, 8, 6) = 1           # six times 0
            over(0, 0, 0, 1, {0 1}) = STATE
            move(2, 0, 1, 0, 6) = 6
            over(0, 0, 0, 1, 0) = 0
            put(2, 0, 6) = 1
            over(0, 0, 0, 2, 0) = STATE
            put(2, 0, -1) = 1
            over(0, 0, 0, 2, 0) = STATE
            put(2, 0, 32) = 1
            over(0, 0, 0, 2, 0) = STATE
            put(2, 0, 5) = 1             # 5 twice, no 0
            over(0, 0, 0, 2, 0) = STATE
            put(2, 5, 0) = 1
            over(0, 0, 0, 2, 0) = 0
            put(2, 5, 6) = 1
            over(0, 0, 0, 2, 0) = STATE
            put(2, 5, 1) = 1
            over(0, 0, 0, 2, 0) = STATE
            """);
    }
}
