/** ERRORS, THE ISLAND, and promises 1 to 4. */
final class IslandEdges {
    private IslandEdges() {
    }

    static void run() {
        errors();
        island();
        newObject();
        way();
        blast();
        wayIs();
    }

    private static void errors() {
        Edges.run("What it is", "An object is used for at most 512 calls after it has been made", """
            way(0, 1, 1, 12) = 1
            image() = 1..503
            blast(0, 1) = 12
            restore() = 1                # and six of told() behind it
            """);
        Edges.terms("ERRORS are answers below -1000000000: LOW is -1000000000; LOW - 1 BEYOND, LOW - 2 NONE, "
            + "LOW - 3 STATE, LOW - 4 FULL, LOW - 5 KIND, LOW - 6 PARTED (in longs, too).", """
            blast(6, 0) = BEYOND
            blast(0, 0) = NONE
            sheet(0, 8, -1) = STATE
            tell(0) = 1..24
            tell(0) = FULL
            as(0, 1) = KIND
            voice(0, 3, 1) = PARTED
            longer(4, 0, 0) = BEYOND
            told(1) = 2
            told({2 3 4 5 6}) = 1
            seed(-1000000000) = 1
            seed(-1000000001) = -1000000000
            seed(-1000000006) = -1000000001
            count(5) = -1000000006       # no ERROR, though it looks like one
            voice(0, 0, -1000000002) = -1000000002
            told({2 3 4 5 6}) = 1
            """);
        Edges.terms("Each act tells its ERRORS in the order in which they are asked; "
            + "one that answers an ERROR changes nothing but what told() tells, or where told.", """
            sheet(0, 8, 4) = 1
            sheet(1, 16, 4) = 1
            put(0, 3, 5) = 1
            way(0, 1, 1, 12) = 1
            move(0, -1, 4, -1, -1) = BEYOND
            move(3, -1, 4, -1, -1) = BEYOND
            move(3, -1, 1, -1, -1) = NONE
            move(0, -1, 1, -1, -1) = KIND
            move(0, -1, 0, -1, -1) = BEYOND
            way(0, 1, 1, 100) = BEYOND
            way(0, 1, 1, 99) = STATE
            walk(4, 0, 3, 0) = BEYOND
            walk(0, 0, 3, 0) = NONE
            put(0, 0, 9) = 1
            walk(0, 0, 0, 0) = BEYOND
            over(0, 0, 4, 3, 0) = BEYOND
            over(0, 0, 0, 3, 0) = NONE
            over(0, 0, 0, 0, 0) = STATE
            told(1) = 7
            told(2) = 3
            told(3) = 2
            told(4) = 0
            told(5) = 1
            """);
        Edges.terms("Quotients are cut toward 0.", """
            way(0, 0, 1, 17) = 1
            volume(0, 13) = 0
            says(0, 0, 0, 1) = 22        # 221 by 10
            voice(3, 3, 8) = -2          # 8 by -3
            voice(3, 3, -8) = 2
            volume(1, 36) = 0
            voice(1, 2, -9) = -12        # -4, and 1 is -3, twice is -6, less 6
            volume(2, 60) = 0
            feed("(1-8)/2+5") = 9
            text(0) = 1
            says(2, 0, 0, 1) = 2
            """);
    }

    private static void island() {
        Edges.terms("THE ISLAND has PLACES 0 .. 5.", """
            way(0, 1, 5, 7) = 1
            way(5, 1, 0, 8) = 1
            wayIs(0, 1, 1) = 7
            wayIs(5, 1, 1) = 8
            wayIs({-1 6 MIN MAX}, 1, 1) = BEYOND
            way({-1 6 MIN MAX}, 0, 1, 1) = BEYOND
            way(1, 0, {-1 6 MIN MAX}, 1) = BEYOND
            count(0) = 2
            """);
        Edges.terms("WAYS from each: 0 north, 1 east, 2 south, 3 west: to another PLACE (or the same), "
            + "or to none (at first); each with a LENGTH (1 .. 99).", """
            wayIs({0 1 2 3 4 5}, {0 1 2 3}, 0) = NONE
            way(0, 0, 1, 1) = 1
            way(0, 1, 1, 2) = 1
            way(0, 2, 1, 98) = 1
            way(0, 3, 1, 99) = 1
            wayIs(0, {0 1 2 3}, 0) = 1
            wayIs(1, {0 1 2 3}, 0) = 0
            wayIs(0, 0, 1) = 1
            wayIs(0, 1, 1) = 2
            wayIs(0, 2, 1) = 98
            wayIs(0, 3, 1) = 99
            way(2, {-1 4 MIN MAX}, 2, 5) = BEYOND
            way(2, 0, 2, {-1 0 100 101 MIN MAX}) = BEYOND
            way(2, 0, 2, 99) = 1
            way(2, 1, 2, 1) = 1
            wayIs(2, {0 1 2 3}, 0) = 2
            wayIs({3 4 5}, {0 1 2 3}, 0) = NONE
            count(0) = 6
            """);
        Edges.terms("A WAY w from a to b is the WAY (w+2) modulo 4 from b to a, with the same LENGTH "
            + "(a WAY from a PLACE to itself takes both its WAYS).", """
            way(0, 0, 1, 11) = 1
            way(0, 1, 2, 12) = 1
            way(0, 2, 3, 13) = 1
            way(0, 3, 4, 14) = 1
            wayIs(1, {0 1 3}, 0) = NONE
            wayIs(1, 2, 0) = 0
            wayIs(1, 2, 1) = 11
            wayIs(2, {0 1 2}, 0) = NONE
            wayIs(2, 3, 0) = 0
            wayIs(2, 3, 1) = 12
            wayIs(3, {1 2 3}, 0) = NONE
            wayIs(3, 0, 0) = 0
            wayIs(3, 0, 1) = 13
            wayIs(4, {0 2 3}, 0) = NONE
            wayIs(4, 1, 0) = 0
            wayIs(4, 1, 1) = 14
            way(5, 3, 5, 99) = 1
            wayIs(5, {1 3}, 0) = 5
            wayIs(5, {1 3}, 1) = 99
            wayIs(5, {0 2}, 0) = NONE
            way(5, {1 3}, 1, 5) = STATE
            way(1, {1 3}, 5, 5) = STATE
            """);
    }

    private static void newObject() {
        Edges.promise(1, "All as at first.", """
            count({0 1 2 3 4}) = 0
            count(5) = 1
            wayIs({0 1 2 3 4 5}, {0 1 2 3}, 1) = NONE
            volumeIs({0 1 2 3}, {0 1 2 3}) = 0
            volumeIs({0 1 2 3}, 4) = 0
            volumeIs({0 1 2 3}, 5) = 1
            volumeIs({0 1 2 3}, 6) = 2
            volumeIs({0 1 2 3}, 7) = 3
            volumeIs({0 1 2 3}, 8) = 4
            volumeIs({0 1 2 3}, 9) = 5
            says({0 1 2 3}, 0, {0 1 2 3}, 0) = NONE
            body({0 1 29}) = NONE
            put({0 1 2 3}, 0, 0) = NONE
            ways({0 1 2 3}) = NONE
            leftOut({0 1 2 3}) = NONE
            boy({0 1 2 3 4 5}, 0) = NONE
            worth({0 1 2 3}) = 0
            told({3 4 5 6}) = 0
            restore() = NONE
            check(0) = 0
            untell({0 1}) = 0
            text({0 1}) = -10            # nothing is on THE TAPE
            image() = 1
            """);
        Edges.promise(1, "All as at first.", """
            told({1 2 3 4 5 6}) = 0
            """);
    }

    private static void way() {
        Edges.promise(2, "A WAY way from a to b, of a LENGTH: 1.", Islands.FULL + """
            count(0) = 12
            count(1) = 594
            wayIs(0, 0, 0) = 1
            wayIs(0, 0, 1) = 99
            wayIs(5, 0, 0) = 0
            wayIs(5, 3, 1) = 49
            """);
        Edges.promise(2, "BEYOND.", """
            way(0, 0, 0, 1) = 1
            way(5, 3, 5, 99) = 1
            way({-1 6 MIN MAX}, 1, 1, 5) = BEYOND
            way(1, {-1 4 MIN MAX}, 1, 5) = BEYOND
            way(1, 1, {-1 6 MIN MAX}, 5) = BEYOND
            way(1, 1, 1, {0 100 MIN MAX}) = BEYOND
            way(0, 0, {-1 6}, 5) = BEYOND      # ahead of STATE
            way(0, 0, 1, {0 100}) = BEYOND
            way({-1 6}, {-1 4}, {-1 6}, {0 100}) = BEYOND
            count(0) = 2
            count(1) = 100
            """);
        Edges.promise(2, "STATE: there is one from a that way, or from b back.", """
            way(0, 1, 1, 5) = 1
            way(0, 1, {0 1 2 3 4 5}, 5) = STATE
            way({0 2 3 4 5}, 1, 1, 5) = STATE
            way(1, 3, {0 2 3}, 5) = STATE
            way({3 4}, 3, 0, 5) = STATE
            wayIs(0, 1, 1) = 5
            way(1, 1, 0, 6) = 1          # east of 1 and west of 0 are free
            way(0, {1 3}, 2, 5) = STATE
            way(1, {1 3}, 2, 5) = STATE
            way(2, 0, 2, 7) = 1
            way(2, {0 2}, 3, 5) = STATE
            way(3, {0 2}, 2, 5) = STATE
            way(3, 2, 4, 5) = 1
            way(3, 0, 3, 5) = STATE      # south of 3 is taken: from b back
            way(4, 2, 4, 5) = STATE      # north of 4 is taken: from b back
            way(4, 0, 4, 5) = STATE
            way(3, 1, 3, 5) = 1
            blast(0, 1) = 5
            way(0, 1, 1, 9) = 1
            """);
        Edges.promise(2, "STATE: there is one from a that way, or from b back.", Islands.FULL + """
            way({0 5}, {0 1 2 3}, {0 1 2 3 4 5}, 1) = STATE
            way(0, 0, 1, 99) = STATE
            count(0) = 12
            """);
    }

    private static void blast() {
        Edges.promise(3, "A WAY (and the one back) is blasted: its LENGTH (no VOLUME LACKS it any more).", """
            way(0, 3, 5, 1) = 1
            way(5, 3, 0, 99) = 1
            way(2, 2, 2, 40) = 1
            lacks({0 1 2 3}, 5, 1) = 1
            lacks({0 3}, 2, 2) = 1
            lacks(3, 5, 3) = 1
            volumeIs(3, 3) = 3
            blast(0, 3) = 1
            wayIs(0, 3, 0) = NONE
            wayIs(5, 1, 0) = NONE
            wayIs(5, 3, 1) = 99
            volumeIs(0, 3) = 1
            volumeIs(3, 3) = 2
            volumeIs({1 2}, 3) = 0
            way(5, 1, 0, 2) = 1
            says({0 1 2 3}, 0, 3, 1) = 2
            blast(2, 0) = 40             # by its other way
            wayIs(2, {0 2}, 0) = NONE
            volumeIs(0, 3) = 0
            volumeIs(3, 3) = 1
            blast(5, 3) = 99
            volumeIs(3, 3) = 0
            count(0) = 1
            blast(5, 1) = 2
            count({0 1}) = 0
            """);
        Edges.promise(3, "BEYOND.", """
            way(0, 0, 0, 5) = 1
            way(5, 3, 5, 6) = 1
            blast({-1 6 MIN MAX}, 0) = BEYOND
            blast(0, {-1 4 MIN MAX}) = BEYOND
            blast({-1 6}, {-1 4}) = BEYOND
            count(0) = 2
            blast(0, 0) = 5
            blast(5, 3) = 6
            """);
        Edges.promise(3, "NONE.", """
            blast({0 5}, {0 3}) = NONE
            way(0, 0, 1, 5) = 1
            blast(0, {1 2 3}) = NONE
            blast(1, {0 1 3}) = NONE
            blast(1, 2) = 5
            blast(1, 2) = NONE
            blast(0, 0) = NONE
            """);
    }

    private static void wayIs() {
        Edges.promise(4, "Of a WAY: 0 to which PLACE, 1 LENGTH, 2 LONE, 3, 4 SPAN.", """
            way(5, 3, 0, 99) = 1
            volume(1, 19) = 0
            volume(2, 39) = 0            # LIED: hides it
            wayIs(5, 3, 0) = 0
            wayIs(5, 3, 1) = 99
            wayIs(5, 3, 2) = 3
            wayIs(5, 3, 3) = 99
            wayIs(5, 3, 4) = 188
            wayIs(0, 1, 0) = 5
            wayIs(0, 1, 1) = 99
            wayIs(0, 1, 2) = 3
            wayIs(0, 1, 3) = 99
            wayIs(0, 1, 4) = 188
            """);
        Edges.promise(4, "BEYOND.", """
            way(0, 0, 0, 5) = 1
            way(5, 3, 5, 6) = 1
            wayIs(0, 0, 0) = 0
            wayIs(5, 3, 4) = 6
            wayIs({-1 6 MIN MAX}, 0, 0) = BEYOND
            wayIs(0, {-1 4 MIN MAX}, 0) = BEYOND
            wayIs(0, 0, {-1 5 MIN MAX}) = BEYOND
            wayIs(1, 0, {-1 5}) = BEYOND # ahead of NONE
            wayIs({-1 6}, {-1 4}, {-1 5}) = BEYOND
            """);
        Edges.promise(4, "NONE: there is no such WAY; no VOLUME SAYS it (3, 4).", """
            wayIs(0, 0, {0 1 2 3 4}) = NONE
            way(0, 0, 1, 5) = 1
            wayIs(0, 2, {0 1 2 3 4}) = NONE
            wayIs(1, 0, {0 1 2 3 4}) = NONE
            lacks({0 1 2}, 0, 0) = 1
            wayIs(1, 2, {3 4}) = 5       # by one VOLUME
            lacks(3, 0, 0) = 1
            wayIs(1, 2, {3 4}) = NONE
            wayIs(1, 2, {0 2}) = 0
            wayIs(1, 2, 1) = 5
            """);
    }
}
