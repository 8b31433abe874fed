/** SPAN, LONE, BOY, WORTH, LONGER, LEFT OUT, and promises 20 to 23. */
final class KnowingEdges {
    private static final String BOY = "BOY: of all rows of 1 .. 3 WAYS of THE ISLAND that can be gone from a PLACE on, "
        + "that one of which the four VOLUMES SAY most unlike things: STEPS of it together, if a VOLUME SAYS each of "
        + "its WAYS, else nothing (which is unlike any STEPS); of several the shortest, then the least row.";
    private static final String LONGER = "LONGER: how much longer steps are in VOLUME a than in b: STEPS of all WAYS "
        + "that both SAY, together, of a by those of b, in lowest terms (0 by 1 if there are none).";
    private static final String LEFT_OUT = "LEFT OUT: the WAY (6 times the way, and the PLACE) with the greatest LENGTH "
        + "that a VOLUME doesn't say: of several the least.";

    private KnowingEdges() {
    }

    static void run() {
        spans();
        boys();
        boy();
        worth();
        longer();
        leftOut();
    }

    private static void spans() {
        Edges.terms("SPAN of a WAY of THE ISLAND: the least, the greatest STEPS of all VOLUMES that SAY it.", """
            way(0, 3, 0, 10) = 1
            wayIs(0, 3, {3 4}) = 10      # all alike
            volume(0, 60) = 0
            volume(3, 60) = 0
            feed("v/3*998+1") = 9
            text(0) = 1
            wayIs(0, 1, 3) = 1           # by the first
            wayIs(0, 1, 4) = 999         # by the last
            lacks(0, 0, 1) = 1
            wayIs(0, 1, 3) = 10
            lacks(3, 0, 1) = 1
            wayIs(0, 1, {3 4}) = 10
            lacks(1, 0, 1) = 1
            volume(2, 19) = 0
            wayIs(0, 1, {3 4}) = 19      # by one alone
            lacks(2, 0, 1) = 1
            wayIs(0, 1, {3 4}) = NONE
            """);
        Edges.terms("LONE: by how many VOLUMES it is said.", """
            way(0, 0, 1, 31) = 1
            wayIs(0, 0, 2) = 4
            volume(1, 33) = 0            # LIED: hides it
            wayIs(0, 0, 2) = 3
            volume(1, 34) = 33
            wayIs(1, 2, 2) = 4
            lacks(0, 0, 0) = 1
            wayIs(1, 2, 2) = 3
            lacks(3, 0, 0) = 1
            wayIs(1, 2, 2) = 2
            volume(2, 30) = 0
            wayIs(1, 2, 2) = 1
            lacks(1, 1, 2) = 1
            wayIs(0, 0, 2) = 0
            """);
    }

    private static void boys() {
        Edges.terms(BOY, """
            way(0, 3, 1, 5) = 1
            way(1, 3, 2, 5) = 1
            way(2, 3, 3, 5) = 1
            way(3, 3, 4, 30) = 1
            volume(1, 11) = 0            # 5 and 33
            boy(1, 0) = 2                # by three WAYS
            boy(1, 1) = 3
            boy(1, 2) = 444
            boy(0, 0) = 1                # it takes four
            boy(0, 1) = 1
            boy(0, 2) = 4
            volume(2, 30) = 0            # says none of them
            volume(3, 41) = 0            # 6 and 34
            boy(1, 0) = 4                # 40, 43, nothing, 46
            boy(1, 2) = 444
            boy(0, 0) = 3                # 5, 5, nothing, 6
            boy(0, 2) = 4
            """);
        Edges.terms(BOY, """
            way(0, 0, 0, 1) = 1
            way(0, 1, 0, 1) = 1
            boy(0, 0) = 1                # 1 .. 4 and 11 .. 444 alike: the shortest, then the least
            boy(0, {1 2}) = 1
            lacks(3, 0, 0) = 1
            boy(0, 0) = 2                # 1 and nothing
            boy(0, 2) = 1
            lacks(3, 0, 0) = 0
            lacks(3, 0, 1) = 1
            boy(0, 0) = 2
            boy(0, 1) = 1
            boy(0, 2) = 2
            lacks(2, 0, 0) = 1
            boy(0, 0) = 2                # nothing is alike, of whatever WAY of a row
            boy(0, 2) = 1
            lacks({0 1 3}, 0, 0) = 1
            lacks({0 1 2}, 0, 1) = 1
            boy(0, 0) = 1                # all say nothing of each
            boy(0, {1 2}) = 1
            """);
        Edges.terms(BOY, """
            way(0, 0, 1, 20) = 1
            way(0, 2, 2, 20) = 1
            volume(1, 11) = 0
            volume(2, 12) = 0
            boy(0, 0) = 3
            boy(0, 2) = 1                # of 1 and 3 the least
            lacks(3, 0, 2) = 1
            boy(0, 0) = 4
            boy(0, 2) = 3
            blast(0, 2) = 20
            way(1, 0, 2, 20) = 1
            lacks(3, 1, 0) = 1
            boy(0, 0) = 4
            boy(0, 1) = 2
            boy(0, 2) = 11
            boy(2, 2) = 3                # of 3 and 33 the shortest
            """);
        Edges.terms("STEPS of it together, if a VOLUME SAYS each of its WAYS, else nothing", """
            way(0, 0, 1, 20) = 1
            way(1, 3, 2, 5) = 1
            volume(1, 31) = 0            # LIED: hides the first, says the second
            lacks(2, 1, 3) = 1           # the other way round
            boy(0, 0) = 2                # by both WAYS 25 and nothing, twice
            boy(0, {1 2}) = 1
            """);
    }

    private static void boy() {
        Edges.promise(20, "BOY from a PLACE: what 0 how many unlike things, 1 how many WAYS, 2 the row, as a number with "
            + "as many figures (its first way first, each 1 more).", """
            way(5, 3, 0, 5) = 1
            way(0, 2, 1, 5) = 1
            way(1, 1, 2, 30) = 1
            volume(3, 11) = 0
            boy(5, 0) = 2
            boy(5, 1) = 3
            boy(5, 2) = 432
            boy(0, 1) = 2
            boy(0, 2) = 32
            boy(1, 1) = 1
            boy(1, 2) = 2
            boy(2, 2) = 4
            """);
        Edges.promise(20, "BOY from a PLACE: what 0 how many unlike things, 1 how many WAYS, 2 the row, as a number with "
            + "as many figures (its first way first, each 1 more).", """
            way(0, 0, 1, 5) = 1
            way(1, 3, 2, 30) = 1
            way(5, 3, 0, 5) = 1
            volume(2, 11) = 0
            boy(0, 1) = 2
            boy(0, 2) = 14
            boy(5, 1) = 3
            boy(5, 2) = 414
            boy(2, 2) = 2
            """);
        Edges.promise(20, "BEYOND.", """
            way(0, 0, 0, 5) = 1
            way(5, 3, 5, 5) = 1
            boy(0, 0) = 1
            boy(5, 2) = 2
            boy({-1 6 MIN MAX}, 0) = BEYOND
            boy(0, {-1 3 MIN MAX}) = BEYOND
            boy(1, {-1 3}) = BEYOND      # ahead of NONE
            boy({-1 6}, {-1 3}) = BEYOND
            """);
        Edges.promise(20, "NONE: no WAY goes from there.", """
            boy({0 1 2 3 4 5}, {0 1 2}) = NONE
            way(0, 0, 5, 5) = 1
            boy(0, 2) = 1
            boy(5, 2) = 3
            boy({1 4}, {0 1 2}) = NONE
            lacks({0 1 2 3}, 0, 0) = 1
            boy({0 5}, 0) = 1            # one goes from there, though no VOLUME SAYS it
            blast(0, 0) = 5
            boy({0 5}, 0) = NONE
            """);
    }

    private static void worth() {
        Edges.terms("WORTH of a VOLUME: VALUES of all SPOTS and ways that it SAYS, together.",
            Islands.FULL + """
            worth(0) = 24
            volume(1, 30) = 0
            worth(1) = 0
            volume(1, 35) = 30           # hides 99 alone
            worth(1) = 22
            feed("99") = 2
            text(1) = 1
            worth(0) = 2376              # the greatest
            feed("0-99") = 4
            text(1) = 1
            worth(0) = -2376             # the least
            feed("s") = 1
            text(1) = 1
            worth(0) = 1188
            feed("v") = 1
            text(1) = 1
            worth(0) = 0
            worth(1) = 22
            worth(3) = 72
            lacks(3, 5, 1) = 1
            worth(3) = 66
            """);
        Edges.promise(21, "WORTH.", """
            worth({0 3}) = 0
            way(0, 3, 5, 1) = 1
            worth({0 3}) = 2
            way(2, 3, 2, 1) = 1
            worth({0 3}) = 4
            lacks(3, 0, 3) = 1
            worth(3) = 2
            lacks(3, 2, 3) = 1
            worth(3) = 0
            """);
        Edges.promise(21, "BEYOND.", """
            worth({-1 4 MIN MAX}) = BEYOND
            worth({0 3}) = 0
            """);
    }

    private static void longer() {
        Edges.terms(LONGER, """
            longer(0, 1, 0) = 0          # there are none
            longer(0, 1, 1) = 1
            way(0, 1, 1, 10) = 1
            longer(0, 1, {0 1}) = 1      # alike
            volume(1, 15) = 0
            longer(1, 0, 0) = 3
            longer(1, 0, 1) = 2
            longer(0, 1, 0) = 2
            longer(0, 1, 1) = 3
            way(2, 2, 2, 99) = 1         # to itself: 148
            longer(1, 0, 0) = 163
            longer(1, 0, 1) = 109
            lacks(0, 0, 1) = 1
            longer(1, 0, 0) = 148        # of those that both SAY
            longer(1, 0, 1) = 99
            lacks(1, 2, 0) = 1
            longer(1, 0, 0) = 0          # no WAY by both
            longer(1, 0, 1) = 1
            longer(1, 1, {0 1}) = 1
            """);
        Edges.terms(LONGER, Islands.FULL + """
            volume(0, 60) = 0
            volume(1, 60) = 0
            feed("v*999") = 5
            text(0) = 1
            longer(1, 0, 0) = 999        # the greatest
            longer(1, 0, 1) = 1
            longer(0, 1, 0) = 1
            longer(0, 1, 1) = 999
            longer(1, 2, 0) = 222        # 11988 by 594, 54 in both
            longer(1, 2, 1) = 11
            """);
        Edges.promise(22, "LONGER, of a by b: part 0 above, 1 below the line.", """
            way(0, 3, 5, 10) = 1
            volume(3, 42) = 0            # 13
            longer(3, 0, 0) = 13
            longer(3, 0, 1) = 10
            longer(0, 3, 0) = 10
            longer(0, 3, 1) = 13
            longer(3, 3, {0 1}) = 1
            """);
        Edges.promise(22, "BEYOND.", """
            longer({-1 4 MIN MAX}, 0, 0) = BEYOND
            longer(0, {-1 4 MIN MAX}, 0) = BEYOND
            longer(0, 0, {-1 2 MIN MAX}) = BEYOND
            longer({-1 4}, {-1 4}, {-1 2}) = BEYOND
            longer({0 3}, {0 3}, 0) = 0
            longer({0 3}, {0 3}, 1) = 1
            """);
    }

    private static void leftOut() {
        Edges.terms(LEFT_OUT, """
            way(0, 0, 0, 1) = 1
            way(5, 1, 5, 1) = 1
            volume(1, 30) = 0
            leftOut(1) = 0               # 0, 12, 11 and 23 are as long: the least
            blast(0, 0) = 1
            leftOut(1) = 11
            way(4, 1, 0, 2) = 1          # 10, and 18 back
            leftOut(1) = 10
            way(3, 1, 1, 2) = 1          # 9
            leftOut(1) = 9
            way(2, 0, 5, 2) = 1          # 2
            leftOut(1) = 2
            way(1, 1, 2, 1) = 1          # 7, but shorter
            leftOut(1) = 2
            way(5, 0, 3, 99) = 1         # 5
            leftOut(1) = 5               # the greatest LENGTH
            """);
        Edges.promise(23, "LEFT OUT.", """
            way(0, 0, 1, 98) = 1
            way(5, 1, 4, 99) = 1
            lacks(3, 0, 0) = 1
            leftOut(3) = 0
            lacks(3, 5, 1) = 1
            leftOut(3) = 11
            lacks(0, 4, 3) = 1           # 22 is 11, the other way
            leftOut(0) = 11
            volume(2, 30) = 0
            leftOut(2) = 11
            swap(2, 5, 0) = 0
            leftOut(2) = 11              # a PLACE, not its SPOT
            """);
        Edges.promise(23, "BEYOND.", """
            leftOut({-1 4 MIN MAX}) = BEYOND
            way(0, 0, 1, 98) = 1
            lacks({0 3}, 0, 0) = 1
            leftOut({0 3}) = 0
            leftOut({-1 4}) = BEYOND
            """);
        Edges.promise(23, "NONE: it says all.", """
            leftOut({0 3}) = NONE        # of no WAY at all
            way(0, 0, 1, 9) = 1
            volume(3, 39) = 0            # bends it, and says it
            leftOut({0 3}) = NONE
            lacks(0, 1, 2) = 1
            leftOut(0) = 0
            leftOut(3) = NONE
            lacks(0, 1, 2) = 0
            leftOut(0) = NONE
            """);
    }
}
