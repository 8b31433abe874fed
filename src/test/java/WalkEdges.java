/** WALKS, DRAWS, and promises 14 to 16. */
final class WalkEdges {
    private WalkEdges() {
    }

    static void run() {
        walks();
        draws();
        walk();
        wrongWalks();
        drawsAndSeed();
    }

    private static void walks() {
        Edges.terms("A WALK is a row of WAYS told by a SHEET (numbers 0 .. 3, all of it), in a VOLUME from a SPOT on: "
            + "it goes as long as the VOLUME SAYS something; END: the SPOT where it ends, GONE: how many WAYS were "
            + "gone, PACED: STEPS together. It CLOSES if all were gone, and END is where it began.", """
            sheet(0, 8, 0) = 1           # no WAY at all
            walk(0, 5, 0, 0) = 5
            walk(0, 5, 0, {1 2}) = 0
            walk(0, 5, 0, 3) = 1
            sheet(0, 8, 1) = 1           # one that isn't said
            walk(0, 5, 0, 0) = 5
            walk(0, 5, 0, {1 2 3}) = 0
            way(5, 0, 4, 9) = 1
            walk(0, 5, 0, 0) = 4
            walk(0, 5, 0, 1) = 1
            walk(0, 5, 0, 2) = 9
            walk(0, 5, 0, 3) = 0
            sheet(0, 8, 2) = 1
            put(0, 1, 2) = 1
            walk(0, 5, 0, 0) = 5         # there and back
            walk(0, 5, 0, 1) = 2
            walk(0, 5, 0, 2) = 18
            walk(0, 5, 0, 3) = 1
            sheet(0, 8, 3) = 1
            put(0, 1, 2) = 1
            put(0, 2, 3) = 1
            walk(0, 5, 0, 0) = 5         # back, but not all gone
            walk(0, 5, 0, 1) = 2
            walk(0, 5, 0, 3) = 0
            """);
        Edges.terms("(numbers 0 .. 3, all of it)", """
            way(0, 0, 0, 5) = 1
            way(1, 1, 1, 1) = 1
            sheet(3, 32, 24) = 1
            walk(0, 0, 3, 0) = 0
            walk(0, 0, 3, 1) = 24
            walk(0, 0, 3, 2) = 120
            walk(0, 0, 3, 3) = 1
            volume(0, 60) = 0
            feed("999") = 3
            text(0) = 1
            walk(0, 0, 3, 2) = 23976     # no longer one
            put(3, 23, 3) = 1
            walk(0, 0, 3, 1) = 23
            walk(0, 0, 3, 3) = 0
            put(3, 23, {4 -1 MIN MAX}) = 1
            walk(0, 0, 3, {0 1 2 3}) = BEYOND
            walk(0, 5, 3, 0) = BEYOND    # though it ends ahead of it
            put(3, 23, 2) = 1
            walk(0, 0, 3, 1) = 24
            """);
    }

    private static void draws() {
        Edges.terms("BY DRAWS: n times in a VOLUME from a SPOT on: a draw's rest by 4: the way; it goes there if that "
            + "is said.", Islands.RING + """
            seed(0) = 1
            draws(0, 3, 1) = 3           # rest 0: nothing is north
            count(5) = 12345
            seed(-1) = 12345
            draws(0, 3, 1) = 4           # rest 1
            seed(1) = -1103502900
            draws(0, 3, 1) = 3           # rest 2
            seed(-1770082073) = 1103527590
            draws(0, 3, 1) = 3           # rest 0
            draws(0, 3, 1) = 2           # rest 3
            seed(-1) = -999580867
            draws(0, 5, 4) = 0           # 1, 0, 3, 1: round the end
            count(5) = -396452581
            volume(0, 23) = 0            # TURN 3: east is 0, west is 2
            seed(0) = -396452581
            draws(0, 3, 2) = 3           # 0 and 2
            seed(0) = -740551042
            draws(0, 3, 1) = 4
            """);
        Edges.terms("DRAWS: z is told (1 at first); each makes it z * 1103515245 + 12345 (an int), and gives z >>> 8.",
            Islands.RING + """
            count(5) = 1
            draws(0, 0, 1) = 0
            count(5) = 1103527590
            draws(0, 0, 1) = 0
            count(5) = -1770082073       # an int that wraps
            seed(MAX) = -1770082073
            draws(0, 0, 1) = 1
            count(5) = 1043980748
            seed(MIN) = 1043980748
            draws(0, 0, 1) = 0
            count(5) = -2147471303
            seed(-1) = -2147471303
            draws(0, 0, 1) = 1           # of a z below 0: 12466657, rest 1
            """);
    }

    private static void walk() {
        Edges.promise(14, "A WALK in a VOLUME from a SPOT, by a SHEET: what 0 END, 1 GONE, 2 PACED, 3 1 if it CLOSES, "
            + "else 0.", """
            way(0, 3, 5, 99) = 1
            sheet(0, 16, 2) = 1
            put(0, 0, 3) = 1
            put(0, 1, 1) = 1
            volume(3, 19) = 0
            swap(3, 0, 4) = 4
            walk(0, 0, 0, 0) = 0
            walk(0, 0, 0, 1) = 2
            walk(0, 0, 0, 2) = 198
            walk(0, 0, 0, 3) = 1
            walk(3, 4, 0, 0) = 4
            walk(3, 4, 0, 2) = 376
            walk(3, 4, 0, 3) = 1
            walk(3, 0, 0, 1) = 0         # SPOT 0 is PLACE 4
            put(0, 1, 0) = 1
            walk(0, 0, 0, 0) = 5
            walk(0, 0, 0, 1) = 1
            walk(0, 0, 0, 2) = 99
            walk(0, 0, 0, 3) = 0
            """);
        Edges.promise(14, "A WALK in a VOLUME from a SPOT, by a SHEET: what 0 END, 1 GONE, 2 PACED, 3 1 if it CLOSES, "
            + "else 0.", """
            way(0, 1, 1, 9) = 1
            way(1, 1, 2, 10) = 1
            sheet(0, 8, 3) = 1
            put(0, {0 1 2}, 1) = 1
            volume(1, 39) = 0            # LIED: bends what is 9 or less
            walk(1, 0, 0, 0) = 0
            walk(1, 0, 0, 1) = 3
            walk(1, 0, 0, 2) = 27
            walk(1, 0, 0, 3) = 1
            walk(1, 1, 0, 0) = 2
            walk(1, 1, 0, 1) = 1
            """);
    }

    private static void wrongWalks() {
        Edges.promise(14, "BEYOND: volume, spot, no such SHEET, what.", """
            sheet(0, 8, 0) = 1
            sheet(3, 8, 0) = 1
            walk(0, 0, 0, 0) = 0
            walk(3, 5, 3, 3) = 1
            walk({-1 4 MIN MAX}, 0, 0, 0) = BEYOND
            walk(0, {-1 6 MIN MAX}, 0, 0) = BEYOND
            walk(0, 0, {-1 4 MIN MAX}, 0) = BEYOND
            walk(0, 0, 0, {-1 4 MIN MAX}) = BEYOND
            walk({-1 4}, 0, 1, 0) = BEYOND     # ahead of NONE
            walk(0, {-1 6}, 1, 0) = BEYOND
            walk(0, 0, 1, {-1 4}) = BEYOND
            walk({-1 4}, {-1 6}, {-1 4}, {-1 4}) = BEYOND
            """);
        Edges.promise(14, "NONE: the SHEET is missing.", """
            walk({0 3}, {0 5}, {0 3}, {0 3}) = NONE
            sheet(0, 8, 1) = 1
            walk(0, 0, 0, 1) = 0
            sheet(0, 0, 1) = 1
            walk(0, 0, 0, 1) = NONE
            """);
        Edges.promise(14, "BEYOND: one of its numbers isn't 0 .. 3.", """
            sheet(0, 8, 2) = 1
            put(0, 0, 3) = 1
            walk(0, 0, 0, 1) = 0
            put(0, 0, 4) = 1
            walk(0, 0, 0, {0 1 2 3}) = BEYOND
            put(0, 0, -1) = 1
            walk(0, 0, 0, {0 1 2 3}) = BEYOND
            put(0, 0, 256) = 1           # 0 of 8 bits
            walk(0, 0, 0, 1) = 0
            put(0, 1, 4) = 1             # that a WALK never comes to
            walk(0, 0, 0, {0 1 2 3}) = BEYOND
            put(0, 1, 255) = 1
            walk(0, 0, 0, 0) = BEYOND
            put(0, 1, 0) = 1
            walk(0, 0, 0, 1) = 0
            """);
    }

    private static void drawsAndSeed() {
        Edges.promise(15, "BY DRAWS n times (1 .. 60): the SPOT at the end.", Islands.RING + """
            draws(0, 0, 1) = 0
            count(5) = 1103527590
            seed(-1) = 1103527590
            draws(3, 5, 1) = 0
            seed(1) = -1103502900
            draws(0, 5, 60) = 2
            count(5) = -2020009403
            seed(0) = -2020009403
            draws(3, 0, 60) = 3
            count(5) = 321843028
            seed(MAX) = 321843028
            draws(0, 0, 5) = 1
            count(5) = -1576448328
            """);
        Edges.promise(15, "BEYOND.", """
            draws({-1 4 MIN MAX}, 0, 1) = BEYOND
            draws(0, {-1 6 MIN MAX}, 1) = BEYOND
            draws(0, 0, {-1 0 61 MIN MAX}) = BEYOND
            draws({-1 4}, {-1 6}, {0 61}) = BEYOND
            count(5) = 1                 # no draw was made
            draws(0, 0, 1) = 0
            draws(3, 5, 60) = 5
            """);
        Edges.promise(16, "z becomes v: what it was (any number).", """
            seed(0) = 1
            seed(-1) = 0
            seed(MAX) = -1
            seed(MIN) = 2147483647
            seed(-1000000002) = -2147483648
            seed(1) = -1000000002
            count(5) = 1
            told({1 2 3 4 5 6}) = 0
            """);
    }
}
