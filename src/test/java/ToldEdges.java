/** IMAGES, numbers that wait, what is counted and told: promises 30 to 35. */
final class ToldEdges {
    private ToldEdges() {
    }

    static void run() {
        image();
        restore();
        tell();
        check();
        count();
        told();
    }

    private static void image() {
        Edges.promise(30, "All (but SHEETS, THE TRACE, what told() tells, and how often this was done) is kept as an "
            + "IMAGE, in place of one ahead: how often that was done.", """
            image() = 1                  # of all as at first
            way(0, 3, 5, 9) = 1
            volume(3, 69) = 0
            swap(3, 0, 5) = 5
            lacks(2, 0, 3) = 1
            feed("l*2") = 3
            text(0) = 1
            feed("s-9") = 3
            text(1) = 1
            feed("7+") = 2
            tell(0) = 1
            seed(77) = 1
            sheet(0, 8, 1) = 1
            voice(0, 1, 0) = 0
            wayIs(0, 0, 0) = NONE
            restore() = 0
            count({0 1 2 3}) = 0
            count(4) = 2                 # THE TRACE stays
            count(5) = 1
            told(2) = 1
            walk(0, 0, 0, 1) = 0         # and SHEETS
            volumeIs(3, {0 1 4}) = 0
            volumeIs(2, 3) = 0
            untell({0 1}) = 0
            image() = 2
            image() = 3
            """);
        Edges.promise(30, "All (but SHEETS, THE TRACE, what told() tells, and how often this was done) is kept as an "
            + "IMAGE, in place of one ahead: how often that was done.", """
            way(0, 3, 5, 9) = 1
            volume(3, 69) = 0
            swap(3, 0, 5) = 5
            lacks(2, 0, 3) = 1
            feed("l*2") = 3
            text(0) = 1
            feed("s-9") = 3
            text(1) = 1
            feed("7+") = 2
            tell(0) = 1
            tell(5) = 2
            seed(77) = 1
            volume(0, 18) = 0
            image() = 1
            blast(0, 3) = 9
            volume(0, 0) = 18
            volume(3, 0) = 69
            swap(3, 0, 5) = 0
            untell({0 1}) = 1
            text(0) = -12
            feed("9*9") = 3
            check(0) = 2
            tell(4) = 1..3
            seed(1) = 77
            restore() = 1
            wayIs(0, 3, 1) = 9
            volumeIs(0, 0) = 1
            volumeIs(0, 1) = 8
            volumeIs(3, 0) = 6
            volumeIs(3, 1) = 9
            volumeIs(3, 4) = 5
            volumeIs(2, 3) = 1
            says(3, 5, 3, 1) = 18
            worth(3) = 18                # 18 less 9, twice
            count(2) = 2
            count(3) = 2
            count(5) = 77
            check(0) = 2
            feed("1") = 3
            text(0) = 1
            says(3, 5, 3, 1) = 8
            blast(0, 3) = 9
            image() = 2                  # in place of the one ahead
            way(0, 3, 5, 9) = 1
            restore() = 0
            count(3) = 0
            """);
    }

    private static void restore() {
        Edges.promise(31, "All is as the IMAGE has it, which stays: how many WAYS THE ISLAND has.",
            Islands.FULL + """
            image() = 1
            restore() = 12               # the most
            blast(0, 0) = 99
            restore() = 12
            count(1) = 594
            blast({0 1 2 3 4 5}, 1) = 49
            restore() = 12               # it stays
            blast({0 1 2 3 4 5}, 1) = 49
            image() = 2
            restore() = 6
            tell(7) = 1
            feed(1, 1) = 1
            restore() = 6
            count({2 3}) = 0
            """);
        Edges.promise(31, "NONE: there is none.", """
            way(0, 0, 1, 5) = 1
            restore() = NONE
            restore() = NONE
            count(0) = 1
            image() = 1
            restore() = 1
            restore() = 1
            told(2) = 2
            """);
    }

    private static void tell() {
        Edges.promise(32, "One more number waits: how many.", """
            tell(MIN) = 1
            tell(MAX) = 2
            tell(0) = 3
            tell(-1) = 4
            check(0) = 1
            tell(-1000000004) = 1
            told(4) = 0
            """);
        Edges.promise(32, "FULL: 24 wait.", """
            tell(0) = 1..23
            tell(9) = 24
            tell({0 9 MIN MAX}) = FULL
            count(3) = 24
            check(0) = 24                # the last one is 9
            tell(0) = 1..24
            tell(9) = FULL
            check(0) = 0
            """);
    }

    private static void check() {
        Edges.promise(33, "The numbers that wait (none do then) are STEPS that a VOLUME SAYS, spot by spot, way by way "
            + "(0: nothing): 0; else 1 and the place of the first that isn't so.", """
            check({0 1 2 3}) = 0         # none wait
            way(0, 0, 5, 7) = 1          # the first of SPOT 0, the third of SPOT 5
            check(0) = 0
            tell(7) = 1
            check(0) = 0
            count(3) = 0
            tell(0) = 1
            check(0) = 1                 # the least place
            count(3) = 0
            tell(7) = 1
            tell(0) = 2..22
            tell(7) = 23
            tell(0) = 24
            check(0) = 0
            tell(7) = 1
            tell(0) = 2..22
            tell(8) = 23
            tell(1) = 24
            check(0) = 23                # the first of two
            tell(7) = 1
            tell(0) = 2..22
            tell(7) = 23
            tell(-1) = 24
            check(0) = 24                # the greatest place
            check(0) = 0
            """);
        Edges.promise(33, "The numbers that wait (none do then) are STEPS that a VOLUME SAYS, spot by spot, way by way "
            + "(0: nothing): 0; else 1 and the place of the first that isn't so.", """
            way(0, 3, 5, 7) = 1
            volume(3, 22) = 0            # names it 1
            swap(3, 0, 1) = 1
            tell(0) = 1..5
            tell(7) = 6
            tell(0) = 7..20
            tell(0) = 21..23
            tell(7) = 24                 # back from 5: 1, and 2
            check(3) = 0
            tell(0) = 1..5
            tell(7) = 6
            check(0) = 4
            lacks(3, 5, 1) = 1
            tell(0) = 1..24
            check(3) = 0
            lacks(3, 5, 1) = 0
            tell(0) = 1..24
            check(3) = 6
            """);
        Edges.promise(33, "BEYOND (none wait then, too).", """
            tell(5) = 1
            tell(6) = 2
            check(4) = BEYOND
            count(3) = 0
            tell(5) = 1
            check(-1) = BEYOND
            count(3) = 0
            check({MIN MAX}) = BEYOND
            tell(0) = 1..24
            check(4) = BEYOND
            tell(0) = 1
            check(3) = 0
            told(1) = 5
            """);
    }

    private static void count() {
        Edges.promise(34, "0 WAYS of THE ISLAND (a WAY and the one back are one), 1 LENGTHS of these together, 2 bytes of "
            + "THE TAPE, 3 numbers that wait, 4 BODIES in THE TRACE, 5 z (any number).", """
            count({0 1 2 3 4}) = 0
            count(5) = 1
            way(0, 0, 1, 99) = 1
            count(0) = 1
            count(1) = 99
            way(2, 0, 2, 1) = 1          # to itself
            count(0) = 2
            count(1) = 100
            feed(-1, 8) = 8
            count(2) = 8
            tell(MIN) = 1
            count(3) = 1
            voice(0, 2, 9) = 18
            count(4) = 3
            seed(MIN) = 1
            count(5) = -2147483648
            seed(-1000000001) = -2147483648
            count(5) = -1000000001
            told({1 2 3 4 5 6}) = 0
            """);
        Edges.promise(34, "0 WAYS of THE ISLAND (a WAY and the one back are one), 1 LENGTHS of these together,", """
            way(0, {0 1 2 3}, 1, 99) = 1
            way(2, {0 1 2 3}, 3, 99) = 1
            way(4, {0 1 2 3}, 5, 99) = 1
            count(0) = 12
            count(1) = 1188              # the greatest
            feed(-1, 8) = 8
            feed(-1, 8) = 16
            feed(-1, 8) = 24
            feed(-1, 8) = 32
            feed(-1, 8) = 40
            feed(-1, 8) = 48
            feed(-1, 8) = 56
            feed(-1, 4) = 60
            count(2) = 60
            tell(0) = 1..24
            count(3) = 24
            """);
        Edges.promise(34, "BEYOND.", """
            count({-1 6 MIN MAX}) = BEYOND
            count(0) = 0
            count(5) = 1
            """);
    }

    private static void told() {
        Edges.promise(35, "How many acts have answered an ERROR LOW - k (k 1 .. 6);", """
            told({1 2 3 4 5 6}) = 0
            way(0, 0, 0, 0) = BEYOND
            told(1) = 1
            blast(0, 0) = NONE
            blast(0, 0) = NONE
            sheet(0, 8, -1) = STATE
            sheet(0, 8, -1) = STATE
            sheet(0, 8, -1) = STATE
            tell(0) = 1..24
            tell(0) = FULL
            as(0, 1) = KIND
            as(0, {2 3 4}) = KIND
            voice(0, 3, 1) = PARTED
            voice(0, 3, {1 1 1 1}) = PARTED
            check(4) = BEYOND
            worth(4) = BEYOND
            longer(0, 0, 2) = BEYOND
            told(1) = 4
            told(2) = 2
            told(3) = 3
            told(4) = 1
            told(5) = 4
            told(6) = 5
            image() = 1
            blast(0, 0) = NONE
            restore() = 0
            told(2) = 3                  # not what an IMAGE has
            """);
        Edges.promise(35, "BEYOND: another k (counted, too).", """
            told(0) = BEYOND
            told(1) = 1
            told({7 -1 MIN MAX}) = BEYOND
            told(1) = 5
            told({2 3 4 5 6}) = 0
            """);
    }
}
