/** Promises 14 to 16: WALKS by a SHEET, BY DRAWS, and z. */
public final class WalksTest {
    /** A square: 0 east to 1, south to 2, west to 3, north to 0; SHEET 1 goes round it. */
    private static final String SQUARE = """
        way(0, 1, 1, 10) = 1
        way(1, 2, 2, 20) = 1
        way(2, 3, 3, 30) = 1
        way(3, 0, 0, 4) = 1
        sheet(1, 8, 4) = 1
        put(1, 0, 1) = 1
        put(1, 1, 2) = 1
        put(1, 2, 3) = 1
        put(1, 3, 0) = 1
        """;

    public static void main(String[] args) {
        walks();
        wrongWalks();
        draws();
        Script.end();
    }

    private static void walks() {
        Script.run("14: walk", SQUARE + """
            walk(0, 0, 1, 0) = 0
            walk(0, 0, 1, 1) = 4
            walk(0, 0, 1, 2) = 64
            walk(0, 0, 1, 3) = 1
            walk(0, 1, 1, 0) = 1         # nothing east of 1
            walk(0, 1, 1, 1) = 0
            walk(0, 1, 1, 2) = 0
            walk(0, 1, 1, 3) = 0         # back where it began, but not all gone
            put(1, 3, 2) = 1
            walk(0, 0, 1, 0) = 3
            walk(0, 0, 1, 1) = 3
            walk(0, 0, 1, 2) = 60
            walk(0, 0, 1, 3) = 0
            way(3, 2, 4, 7) = 1
            walk(0, 0, 1, 0) = 4
            walk(0, 0, 1, 1) = 4
            walk(0, 0, 1, 2) = 67
            walk(0, 0, 1, 3) = 0         # all gone, but elsewhere
            """);
        Script.run("14: walk, in other volumes", SQUARE + """
            volume(1, 15) = 0
            walk(1, 0, 1, 2) = 96        # 15, 30, 45, 6
            swap(1, 0, 5) = 5
            walk(1, 5, 1, 3) = 1
            walk(1, 0, 1, 1) = 0
            volume(2, 39) = 0            # LIED: 4 bends
            walk(2, 0, 1, 0) = 3
            walk(2, 0, 1, 1) = 4
            walk(2, 0, 1, 2) = 64
            walk(2, 0, 1, 3) = 0
            volume(2, 32) = 39           # LIED: 30 is hidden
            walk(2, 0, 1, 0) = 2
            walk(2, 0, 1, 1) = 2
            walk(2, 0, 1, 2) = 30
            volume(3, 23) = 0            # TURNED: 1 2 3 0 is gone as 2 3 0 1
            walk(3, 1, 1, 0) = 1
            walk(3, 1, 1, 1) = 4
            walk(3, 1, 1, 3) = 1
            walk(3, 0, 1, 1) = 1         # south to 3, and nothing west of it
            sheet(0, 8, 0) = 1
            walk(0, 4, 0, 0) = 4         # no WAY at all is a WALK that CLOSES
            walk(0, 4, 0, 1) = 0
            walk(0, 4, 0, 2) = 0
            walk(0, 4, 0, 3) = 1
            """);
    }

    private static void wrongWalks() {
        Script.run("14: walk, wrong", SQUARE + """
            walk(-1, 0, 1, 0) = BEYOND
            walk(4, 0, 1, 0) = BEYOND
            walk(0, -1, 1, 0) = BEYOND
            walk(0, 6, 1, 0) = BEYOND
            walk(0, 0, -1, 0) = BEYOND
            walk(0, 0, 4, 0) = BEYOND
            walk(0, 0, 1, -1) = BEYOND
            walk(0, 0, 1, 4) = BEYOND
            walk(0, 0, 2, 0) = NONE
            walk(4, 0, 2, 0) = BEYOND    # asked ahead of NONE
            walk(0, 6, 2, 0) = BEYOND
            walk(0, 0, 2, 4) = BEYOND
            put(1, 3, 4) = 1
            walk(0, 0, 1, 0) = BEYOND
            walk(0, 1, 1, 0) = BEYOND    # though the WALK would end ahead of it
            put(1, 3, -1) = 1
            walk(0, 0, 1, 0) = BEYOND
            put(1, 3, 256) = 1           # 0 in 8 bits
            walk(0, 0, 1, 3) = 1
            sheet(2, 32, 1) = 1
            put(2, 0, 256) = 1
            walk(0, 0, 2, 0) = BEYOND
            """);
    }

    private static void draws() {
        Script.run("15, 16: draws and seed", Islands.RING + """
            draws(0, 2, 1) = 2
            count(5) = 1103527590
            draws(0, 2, 3) = 1
            count(5) = -999580867
            seed(1) = -999580867
            draws(0, 2, 12) = 1
            count(5) = 836760821
            seed(1) = 836760821
            draws(0, 2, 60) = 5
            seed(7) = -2020009403
            draws(0, 0, 5) = 1
            count(5) = 2131988640
            seed(-5) = 2131988640
            draws(0, 3, 9) = 2
            seed(1) = 1601724976
            volume(1, 21) = 0
            draws(1, 2, 1) = 3           # 2 in it is east
            seed(1) = 1103527590
            swap(1, 2, 5) = 5
            draws(1, 5, 1) = 3
            seed(1) = 1103527590
            volume(2, 31) = 0            # LIED: bends all that is 1 long
            draws(2, 4, 60) = 4
            seed(1) = -2020009403
            lacks(0, 2, 1) = 1
            draws(0, 2, 3) = 2
            draws(0, 3, 1) = 3           # 3 is west, which it LACKS
            """);
        Script.run("15, 16: wrong draws", """
            draws(0, 0, 0) = BEYOND
            draws(0, 0, 61) = BEYOND
            draws(0, 0, -1) = BEYOND
            draws(0, 6, 1) = BEYOND
            draws(0, -1, 1) = BEYOND
            draws(4, 0, 1) = BEYOND
            draws(-1, 0, 1) = BEYOND
            count(5) = 1                 # none was made
            draws(3, 3, 5) = 3
            count(5) = -112468174
            seed(-2147483648) = -112468174
            seed(-1000000001) = -2147483648
            seed(0) = -1000000001
            told(1) = 7
            """);
    }
}
