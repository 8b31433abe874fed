/** Promises 5 to 10: volumes, their KINDS, ORDERS and LACKS, and what they SAY. */
public final class VolumesTest {
    public static void main(String[] args) {
        kinds();
        orders();
        lacks();
        said();
        Script.end();
    }

    private static void kinds() {
        Script.run("5: volume", """
            volume(0, 69) = 0
            volume(0, 0) = 69
            volume(0, 10) = 0
            volume(3, 7) = 0
            volume(3, 57) = 7
            volume(3, 57) = 57
            volumeIs(3, 0) = 5
            volumeIs(3, 1) = 7
            volume(0, -1) = BEYOND
            volume(0, 70) = BEYOND
            volume(-1, 0) = BEYOND
            volume(4, 0) = BEYOND
            volumeIs(0, 0) = 1
            """);
        Script.run("5: a volume keeps ORDER and LACKS", """
            way(0, 1, 1, 12) = 1
            swap(1, 0, 5) = 5
            lacks(1, 0, 1) = 1
            volume(1, 33) = 0
            volumeIs(1, 4) = 5
            volumeIs(1, 3) = 1
            """);
        Script.run("6: volumeIs, TURN of each KIND", """
            volume(0, 29) = 0
            volumeIs(0, 2) = 1           # 9 modulo 4
            volume(0, 22) = 29
            volumeIs(0, 2) = 2
            volume(0, 57) = 22
            volumeIs(0, 2) = 1           # 7 and 2, modulo 4
            volume(0, 51) = 57
            volumeIs(0, 2) = 3
            volume(0, 3) = 51
            volumeIs(0, 2) = 0
            volume(0, 13) = 3
            volumeIs(0, 2) = 0
            volume(0, 33) = 13
            volumeIs(0, 2) = 0
            volume(0, 43) = 33
            volumeIs(0, 2) = 0
            volume(0, 63) = 43
            volumeIs(0, 2) = 0
            volumeIs(0, -1) = BEYOND
            volumeIs(0, 10) = BEYOND
            volumeIs(-1, 0) = BEYOND
            volumeIs(4, 0) = BEYOND
            """);
        Script.run("7: as", """
            volume(0, 43) = 0
            as(0, 4) = 3
            as(0, 1) = 3
            as(0, 0) = 3
            as(0, 2) = KIND
            as(0, 3) = KIND
            as(0, 5) = KIND
            as(0, 6) = KIND
            volume(1, 58) = 0
            as(1, 5) = 8
            as(1, 2) = 8
            as(1, 0) = 8
            as(1, 1) = KIND
            volume(2, 25) = 0
            as(2, 2) = 5
            as(2, 5) = KIND              # NIGHT is under TURNED, not above
            volume(3, 61) = 0
            as(3, 6) = 1
            as(3, 0) = 1
            as(3, 3) = KIND
            volume(3, 39) = 61
            as(3, 3) = 9
            volume(3, 19) = 39
            as(3, 1) = 9
            as(3, 4) = KIND
            volume(3, 9) = 19
            as(3, 0) = 9
            as(3, 1) = KIND
            as(3, -1) = BEYOND
            as(3, 7) = BEYOND
            as(-1, 0) = BEYOND
            as(4, 0) = BEYOND
            """);
    }

    private static void orders() {
        Script.run("8: swap", """
            swap(1, 0, 5) = 5
            swap(1, 0, 0) = 5
            swap(1, 5, 2) = 2
            volumeIs(1, 4) = 5
            volumeIs(1, 5) = 1
            volumeIs(1, 6) = 0
            volumeIs(1, 7) = 3
            volumeIs(1, 9) = 2
            volumeIs(0, 4) = 0
            swap(1, 0, 6) = BEYOND
            swap(1, 6, 0) = BEYOND
            swap(1, -1, 0) = BEYOND
            swap(1, 0, -1) = BEYOND
            swap(-1, 0, 0) = BEYOND
            swap(4, 0, 0) = BEYOND
            volumeIs(1, 4) = 5
            """);
    }

    private static void lacks() {
        Script.run("9: lacks", """
            way(0, 1, 1, 12) = 1
            way(2, 0, 2, 3) = 1
            lacks(2, 0, 1) = 1
            says(2, 0, 1, 0) = NONE
            says(2, 1, 3, 0) = NONE      # the way back alike
            says(1, 0, 1, 0) = 1
            volumeIs(2, 3) = 1
            lacks(2, 2, 2) = 1
            volumeIs(2, 3) = 2           # of a PLACE to itself one
            says(2, 2, 0, 1) = NONE
            lacks(2, 1, 3) = 0           # by its way back
            says(2, 0, 1, 0) = 1
            volumeIs(2, 3) = 1
            lacks(2, 2, 0) = 0
            volumeIs(2, 3) = 0
            says(2, 2, 2, 1) = 3
            lacks(2, 0, 0) = NONE
            lacks(2, 6, 0) = BEYOND
            lacks(2, -1, 0) = BEYOND
            lacks(2, 0, 4) = BEYOND
            lacks(2, 0, -1) = BEYOND
            lacks(4, 0, 1) = BEYOND
            lacks(-1, 0, 0) = BEYOND     # asked ahead of NONE
            volumeIs(2, 3) = 0
            """);
    }

    private static void said() {
        Script.run("10: says, orders and turns", """
            way(0, 1, 1, 12) = 1
            swap(1, 0, 5) = 5
            swap(1, 1, 3) = 3
            says(1, 5, 1, 0) = 3
            says(1, 3, 3, 0) = 5
            says(1, 0, 1, 0) = NONE
            volume(1, 23) = 0            # three quarters further on
            says(1, 5, 0, 0) = 3
            says(1, 3, 2, 0) = 5
            says(1, 5, 1, 0) = NONE
            volume(1, 50) = 23           # NIGHT: two quarters
            says(1, 5, 3, 0) = 3
            says(1, 3, 1, 1) = 12
            says(0, 0, 1, 2) = BEYOND
            says(0, 0, 1, -1) = BEYOND
            says(0, 6, 1, 0) = BEYOND
            says(0, -1, 1, 0) = BEYOND
            says(0, 0, 4, 0) = BEYOND
            says(0, 0, -1, 0) = BEYOND
            says(4, 0, 1, 0) = BEYOND
            says(-1, 0, 1, 0) = BEYOND
            says(0, 0, 0, 2) = BEYOND    # asked ahead of NONE
            says(0, 0, 0, 1) = NONE
            """);
        Script.run("10: says, STEPS of each KIND", """
            way(0, 0, 1, 17) = 1
            says(0, 0, 0, 1) = 17
            volume(0, 13) = 0
            says(0, 0, 0, 1) = 22        # 17 * 13 / 10, cut
            volume(0, 19) = 13
            says(0, 0, 0, 1) = 32
            volume(0, 10) = 19
            says(0, 0, 0, 1) = 17
            volume(0, 43) = 10
            says(0, 0, 0, 1) = 23
            volume(0, 29) = 43
            says(0, 0, 1, 1) = 17
            volume(0, 59) = 29
            says(0, 0, 3, 1) = 17
            volume(0, 32) = 59
            says(0, 0, 0, 1) = 17
            volume(0, 63) = 32
            says(0, 0, 0, 1) = 17        # TOLD without a TEXT
            """);
        Script.run("10: says, LIED hides and bends", """
            way(0, 0, 1, 20) = 1
            way(0, 1, 2, 21) = 1
            way(0, 2, 3, 2) = 1
            way(0, 3, 4, 3) = 1
            volume(0, 32) = 0
            says(0, 0, 0, 0) = 1         # 20 is not above 10 times 2
            says(0, 0, 1, 0) = NONE
            says(0, 2, 3, 0) = NONE
            says(0, 0, 2, 0) = 0         # 2 or less bends
            says(0, 3, 0, 0) = 3
            says(0, 3, 0, 1) = 2
            says(0, 0, 3, 0) = 4
            swap(0, 0, 5) = 5
            says(0, 5, 2, 0) = 5
            says(0, 5, 3, 0) = 4
            says(0, 4, 1, 0) = 5
            volume(0, 30) = 32           # m 0 hides all
            says(0, 5, 2, 0) = NONE
            volume(0, 39) = 30
            says(0, 5, 1, 0) = 2         # 21 is not above 90
            says(0, 5, 3, 0) = 5         # 3 is 9 or less
            """);
    }
}
