/** SHEETS, and promises 26 to 29. */
final class SheetEdges {
    private SheetEdges() {
    }

    static void run() {
        sheets();
        sheet();
        put();
        move();
        wrongMoves();
        ways();
    }

    private static void sheets() {
        Edges.terms("SHEETS 0 .. 3 are rows of 8, 16, 32 bits, at most 24 numbers, or missing (as at first).", """
            put({0 1 2 3}, 0, 0) = NONE
            sheet(0, 8, 24) = 1
            sheet(1, 16, 24) = 1
            sheet(2, 32, 24) = 1
            sheet(3, 32, 25) = BEYOND
            put({0 1 2}, {0 23}, 3) = 1
            put({0 1 2}, 24, 3) = BEYOND
            put(3, 0, 0) = NONE
            sheet({-1 4}, 8, 1) = BEYOND
            sheet(3, {1 7 9 15 17 24 31 33 64}, 1) = BEYOND
            sheet(0, 8, 0) = 1           # of no numbers, but not missing
            put(0, 0, 0) = BEYOND
            """);
    }

    private static void sheet() {
        Edges.promise(26, "A SHEET has n numbers, all 0, of so many bits (8, 16, 32; 0: it is missing, n doesn't "
            + "matter): 1.", """
            sheet(0, 8, 1) = 1
            sheet(3, 8, 24) = 1
            move(0, 0, 3, 23, 1) = 1     # alike
            put(3, {0 5 23}, 3) = 1
            walk(0, 0, 3, 1) = 0
            put(3, 23, 4) = 1
            walk(0, 0, 3, 1) = BEYOND
            sheet(3, 8, 24) = 1          # all 0 again
            walk(0, 0, 3, 1) = 0
            sheet(3, 16, 24) = 1
            move(0, 0, 3, 0, 1) = KIND
            sheet(0, 16, 24) = 1
            move(0, 0, 3, 0, 24) = 24
            put(0, {22 23}, 4) = 1
            sheet(0, 16, 23) = 1
            sheet(0, 32, 24) = 1
            walk(0, 0, 0, 1) = 0
            move(0, 0, 3, 0, 1) = KIND
            sheet(0, 32, 0) = 1
            walk(0, 0, 0, 3) = 1
            sheet(0, 0, {-1 0 25 MIN MAX}) = 1
            walk(0, 0, 0, 3) = NONE
            sheet(0, 8, 24) = 1
            walk(0, 0, 0, 3) = 0
            """);
        Edges.promise(26, "BEYOND.", """
            sheet(0, 8, 2) = 1
            put(0, 1, 3) = 1
            sheet({-1 4 MIN MAX}, 8, 1) = BEYOND
            sheet({-1 4}, 0, 1) = BEYOND
            sheet(0, {-8 -1 1 7 9 12 24 31 33 40 64 MIN MAX}, 1) = BEYOND
            sheet(0, {8 16 32}, {25 MAX}) = BEYOND
            sheet({-1 4}, {-1 7}, 25) = BEYOND
            put(0, 1, 3) = 1             # as it was
            put(0, 2, 3) = BEYOND
            sheet(3, {8 16 32}, {0 24}) = 1
            """);
        Edges.promise(26, "STATE: n is below 0 (ahead of BEYOND of n).", """
            sheet(0, 8, 2) = 1
            put(0, 1, 3) = 1
            sheet(0, {8 16 32}, {-1 MIN}) = STATE
            sheet(1, {8 16 32}, {-1 -2 -25 MIN}) = STATE
            sheet({-1 4}, 8, -1) = BEYOND      # behind BEYOND of the others
            sheet(0, {-1 7 33}, -1) = BEYOND
            sheet(0, 8, 25) = BEYOND
            put(0, 1, 3) = 1
            put(1, 0, 0) = NONE
            sheet(0, 8, 0) = 1
            """);
    }

    private static void put() {
        Edges.promise(27, "Number i of a SHEET becomes v (its lowest bits): 1.", """
            sheet(0, 8, 24) = 1
            sheet(1, 16, 1) = 1
            sheet(3, 32, 1) = 1
            put(0, 0, 3) = 1
            put(0, 23, 4) = 1
            walk(0, 0, 0, 1) = BEYOND
            put(0, 23, 256) = 1          # 0
            walk(0, 0, 0, 1) = 0
            put(0, 23, {255 128 127 -1 -128 MAX}) = 1
            walk(0, 0, 0, 1) = BEYOND
            put(0, 23, {MIN -256 259 -253}) = 1
            walk(0, 0, 0, 1) = 0
            put(1, 0, {256 65535 -1 32768 MAX}) = 1
            walk(0, 0, 1, 1) = BEYOND
            put(1, 0, {65536 65539 -65533 MIN}) = 1
            walk(0, 0, 1, 1) = 0
            put(3, 0, {65536 256 -1 MAX MIN}) = 1
            walk(0, 0, 3, 1) = BEYOND
            put(3, 0, 3) = 1
            walk(0, 0, 3, 1) = 0
            """);
        Edges.promise(27, "Number i of a SHEET becomes v (its lowest bits): 1.", """
            sheet(0, 8, 4) = 1
            put(0, 3, 355) = 1           # 99 of 8 bits
            ways(0) = 1
            wayIs(0, 0, 1) = 99
            sheet(1, 16, 4) = 1
            put(1, 0, 65537) = 1         # 1 of 16 bits
            put(1, 1, -65535) = 1        # 1, too
            put(1, 3, 65636) = 1         # 100
            ways(1) = 0
            put(1, 3, 65635) = 1         # 99
            ways(1) = 1
            wayIs(1, 1, 0) = 0
            """);
        Edges.promise(27, "BEYOND: no such SHEET.", """
            sheet(0, 8, 1) = 1
            sheet(3, 8, 1) = 1
            put({-1 4 MIN MAX}, 0, 1) = BEYOND
            put({-1 4}, {-1 24}, 1) = BEYOND
            put({0 3}, 0, 1) = 1
            """);
        Edges.promise(27, "NONE: it is missing.", """
            put({0 3}, {0 -1 24 MIN MAX}, 1) = NONE    # ahead of BEYOND of the number
            sheet(0, 8, 1) = 1
            put(0, 0, 1) = 1
            sheet(0, 0, 1) = 1
            put(0, 0, 1) = NONE
            """);
        Edges.promise(27, "BEYOND: no such number.", """
            sheet(0, 8, 1) = 1
            sheet(1, 8, 24) = 1
            sheet(2, 8, 0) = 1
            put(0, {-1 1 23 MIN MAX}, 1) = BEYOND
            put(1, {-1 24 MIN MAX}, 1) = BEYOND
            put(2, {-1 0 1}, 1) = BEYOND
            put(0, 0, 1) = 1
            put(1, {0 23}, 1) = 1
            """);
    }

    private static void move() {
        Edges.promise(28, "n numbers of a SHEET, from number i on, come to another one (or the same), from its number j "
            + "on, as they all were: n.", """
            sheet(0, 8, 6) = 1
            put(0, {0 1 2 3 4}, 1) = 1
            put(0, 1, 2) = 1
            put(0, 2, 3) = 1
            put(0, 3, 44) = 1            # 1 2 3 44 1 0
            sheet(3, 8, 24) = 1
            move(0, 0, 3, 20, 4) = 4     # to the end
            move(3, 20, 3, 0, 4) = 4
            ways(3) = 1
            wayIs(1, 2, 0) = 3
            blast(1, 2) = 44
            move(0, 0, 0, 1, 4) = 4      # 1 1 2 3 44 0: up, as they all were
            ways(0) = 1
            wayIs(1, 1, 0) = 2
            blast(1, 1) = 3
            move(0, 1, 0, 0, 4) = 4      # 1 2 3 44 44 0: down
            ways(0) = 1
            blast(1, 2) = 44
            move(0, 0, 0, 0, 6) = 6
            ways(0) = 1
            blast(3, 0) = 44
            sheet(1, 8, 4) = 1
            move(0, 2, 1, 0, 1) = 1      # 3 0 0 0
            move(0, 3, 1, 3, 1) = 1      # 3 0 0 44
            ways(1) = 1
            wayIs(3, 0, 0) = 0
            """);
        Edges.promise(28, "n numbers of a SHEET, from number i on, come to another one (or the same), from its number j "
            + "on, as they all were: n.", """
            sheet(0, 32, 24) = 1
            sheet(1, 32, 24) = 1
            sheet(2, 16, 0) = 1
            put(0, 23, -5) = 1
            move(0, 0, 1, 0, 24) = 24    # all there are
            move({0 1}, {0 24}, {0 1}, {0 24}, 0) = 0    # none
            move(0, 23, 1, 0, 1) = 1
            walk(0, 0, 1, 0) = BEYOND
            move(2, 0, 2, 0, 0) = 0
            """);
    }

    private static void wrongMoves() {
        Edges.promise(28, "BEYOND: no such SHEET.", """
            sheet(0, 8, 1) = 1
            sheet(3, 8, 1) = 1
            move({-1 4 MIN MAX}, 0, 0, 0, 1) = BEYOND
            move(0, 0, {-1 4 MIN MAX}, 0, 1) = BEYOND
            move(1, 0, {-1 4}, 0, 1) = BEYOND  # ahead of NONE
            move({-1 4}, 0, 1, 0, 1) = BEYOND
            move({-1 4}, -1, {-1 4}, -1, -1) = BEYOND
            move({0 3}, 0, {0 3}, 0, 1) = 1
            """);
        Edges.promise(28, "NONE: one is missing.", """
            sheet(0, 8, 1) = 1
            move(0, 0, {1 2 3}, 0, 1) = NONE
            move({1 2 3}, 0, 0, 0, 1) = NONE
            move(1, 0, 1, 0, 0) = NONE
            sheet(2, 16, 1) = 1
            sheet(2, 0, 1) = 1           # though it had bits
            move(0, {-1 0 2}, 2, {-1 0 2}, {-1 2}) = NONE
            move(2, {-1 0 2}, 0, {-1 0 2}, {-1 2}) = NONE
            move(0, 0, 0, 0, 1) = 1
            """);
        Edges.promise(28, "KIND: they are of unlike bits.", """
            sheet(0, 8, 2) = 1
            sheet(1, 16, 2) = 1
            sheet(2, 32, 2) = 1
            move(0, 0, {1 2}, 0, {0 1}) = KIND
            move({1 2}, 0, 0, 0, 2) = KIND
            move(1, 0, 2, 0, 1) = KIND
            move(2, 0, 1, 0, 1) = KIND
            move(0, {-1 0 3}, 1, {-1 0 3}, {-1 3}) = KIND    # ahead of BEYOND
            sheet(1, 8, 2) = 1
            move(0, 0, 1, 0, 2) = 2
            """);
        Edges.promise(28, "BEYOND: n, i, or j is below 0, or they don't stand there.", """
            sheet(0, 8, 5) = 1
            sheet(1, 8, 6) = 1
            put(0, 0, 7) = 1
            move(0, 0, 1, 0, {-1 6 MIN MAX}) = BEYOND
            move(1, 0, 0, 0, {-1 6 MIN MAX}) = BEYOND
            move(0, {-1 1 MIN MAX}, 1, 0, 5) = BEYOND
            move(0, 0, 1, {-1 2 MIN MAX}, 5) = BEYOND
            move(1, 0, 0, {-1 1 MIN MAX}, 5) = BEYOND
            move(1, {-1 2 MIN MAX}, 0, 0, 5) = BEYOND
            move(0, {-1 5 MIN MAX}, 0, 0, 1) = BEYOND
            move(0, 0, 0, {-1 5 MIN MAX}, 1) = BEYOND
            move(0, {-1 MIN}, 0, 0, 0) = BEYOND
            move(0, 0, 0, {-1 MIN}, 0) = BEYOND
            move(0, {-1 6 MIN MAX}, 1, {-1 7 MIN MAX}, {-1 MIN}) = BEYOND
            move(0, {1 MAX}, 1, {1 MAX}, MAX) = BEYOND    # together they wrap
            move(0, 0, 1, 0, 5) = 5
            move(0, 0, 1, 1, 5) = 5
            move(0, 4, 1, 5, 1) = 1
            """);
    }

    private static void ways() {
        Edges.promise(29, "Numbers of a SHEET, four by four, are WAYS (a, way, b, LENGTH) that come, up to the first "
            + "four that way() would refuse (no ERROR then), or that lack one: how many came.", """
            sheet(0, 8, 24) = 1
            put(0, {3 7 11 15 19 23}, 50) = 1
            put(0, {4 6}, 1) = 1
            put(0, {8 10}, 2) = 1
            put(0, {12 14}, 3) = 1
            put(0, {16 18}, 4) = 1
            put(0, {20 22}, 5) = 1
            ways(0) = 6                  # all that a SHEET can hold
            count(0) = 6
            count(1) = 300
            ways(0) = 0                  # the first is refused
            blast({0 1 2 3 4 5}, 0) = 50
            put(0, 11, 100) = 1
            ways(0) = 2                  # up to there, though others are free behind
            count(0) = 2
            told({1 3}) = 0
            """);
        Edges.promise(29, "Numbers of a SHEET, four by four, are WAYS (a, way, b, LENGTH) that come, up to the first "
            + "four that way() would refuse (no ERROR then), or that lack one: how many came.", """
            sheet(0, 8, 0) = 1
            ways(0) = 0
            sheet(0, 8, {1 2 3}) = 1
            ways(0) = 0
            sheet(0, 8, 4) = 1
            ways(0) = 0                  # of LENGTH 0
            put(0, 3, 1) = 1
            ways(0) = 1
            blast(0, 0) = 1
            sheet(0, 8, 7) = 1
            put(0, 3, 99) = 1
            put(0, {4 6}, 5) = 1
            ways(0) = 1                  # the next four lack one
            count(0) = 1
            blast(0, 2) = 99
            sheet(0, 8, 8) = 1
            put(0, 3, 99) = 1
            put(0, {4 6}, 5) = 1
            put(0, 7, 1) = 1
            ways(0) = 2
            blast(5, 0) = 1
            """);
        Edges.promise(29, "Numbers of a SHEET, four by four, are WAYS (a, way, b, LENGTH) that come, up to the first "
            + "four that way() would refuse (no ERROR then), or that lack one: how many came.", """
            sheet(0, 32, 8) = 1
            put(0, {3 7}, 9) = 1
            put(0, {4 6}, 1) = 1
            put(0, 0, {6 -1 MIN MAX}) = 1
            ways(0) = 0
            put(0, 0, 5) = 1
            put(0, 1, {4 -1 MIN MAX}) = 1
            ways(0) = 0
            put(0, 1, 3) = 1
            put(0, 2, {6 -1 MIN MAX}) = 1
            ways(0) = 0
            put(0, 2, 5) = 1
            put(0, 3, {0 100 -1 MIN MAX}) = 1
            ways(0) = 0
            put(0, 3, 9) = 1
            put(0, 6, 6) = 1
            ways(0) = 1
            wayIs(5, 1, 0) = 5
            told({1 3}) = 0
            """);
        Edges.promise(29, "BEYOND.", """
            sheet(0, 8, 4) = 1
            sheet(3, 8, 4) = 1
            ways({-1 4 MIN MAX}) = BEYOND
            ways({0 3}) = 0
            """);
        Edges.promise(29, "NONE.", """
            ways({0 3}) = NONE
            sheet(0, 8, 0) = 1
            ways(0) = 0
            sheet(0, 0, 0) = 1
            ways(0) = NONE
            """);
    }
}
