/** Promises 1 to 4: a new object, ways that come, are blasted and are asked. */
public final class IslandTest {
    public static void main(String[] args) {
        Script.run("1: a new object", """
            count(0) = 0
            count(1) = 0
            count(2) = 0
            count(3) = 0
            count(4) = 0
            count(5) = 1
            wayIs(0, 0, 0) = NONE
            wayIs(5, 3, 2) = NONE
            says(0, 0, 0, 0) = NONE
            volumeIs(0, 0) = 0
            volumeIs(3, 0) = 0
            volumeIs(3, 1) = 0
            volumeIs(3, 2) = 0
            volumeIs(3, 3) = 0
            volumeIs(0, 4) = 0
            volumeIs(1, 5) = 1
            volumeIs(2, 6) = 2
            volumeIs(3, 7) = 3
            volumeIs(0, 8) = 4
            volumeIs(1, 9) = 5
            untell(0) = 0
            untell(1) = 0
            body(0) = NONE
            put(0, 0, 0) = NONE
            put(1, 0, 0) = NONE
            put(2, 0, 0) = NONE
            put(3, 0, 0) = NONE
            restore() = NONE
            check(0) = 0
            worth(0) = 0
            told(1) = 0
            told(2) = 9
            told(3) = 0
            told(4) = 0
            told(5) = 0
            told(6) = 0
            image() = 1
            """);
        Script.run("2: way", """
            way(0, 1, 1, 12) = 1
            wayIs(0, 1, 0) = 1
            wayIs(0, 1, 1) = 12
            wayIs(1, 3, 0) = 0
            wayIs(1, 3, 1) = 12
            way(0, 1, 2, 3) = STATE      # taken from a
            way(2, 1, 1, 3) = STATE      # taken from b back
            way(2, 3, 1, 1) = 1          # the least LENGTH
            wayIs(1, 1, 0) = 2
            way(3, 0, 3, 99) = 1         # to itself, the greatest LENGTH
            wayIs(3, 0, 0) = 3
            wayIs(3, 2, 0) = 3
            wayIs(3, 2, 1) = 99
            way(3, 2, 4, 5) = STATE
            way(4, 2, 3, 5) = STATE      # the way back from 3 is north, taken by itself
            way(4, 0, 3, 5) = STATE
            way(4, 1, 3, 5) = 1
            way(4, 1, 4, 5) = STATE
            way(4, 3, 4, 5) = STATE      # to itself needs both its ways
            way(5, 0, 5, 4) = 1
            way(5, 1, 5, 4) = 1
            count(0) = 6
            count(1) = 125
            """);
        Script.run("2: way, wrong", """
            way(0, 1, 1, 12) = 1
            way(-1, 0, 0, 1) = BEYOND
            way(6, 0, 0, 1) = BEYOND
            way(0, -1, 0, 1) = BEYOND
            way(0, 4, 0, 1) = BEYOND
            way(0, 0, -1, 1) = BEYOND
            way(0, 0, 6, 1) = BEYOND
            way(0, 0, 1, 0) = BEYOND
            way(0, 0, 1, 100) = BEYOND
            way(0, 0, 1, -12) = BEYOND
            way(0, 1, 6, 5) = BEYOND     # asked ahead of STATE
            way(0, 1, 1, 100) = BEYOND
            way(0, 1, 1, 12) = STATE
            way(2147483647, -2147483648, 2147483647, -2147483648) = BEYOND
            count(0) = 1
            count(1) = 12
            """);
        Script.run("3: blast", """
            way(0, 1, 1, 12) = 1
            way(2, 0, 2, 9) = 1
            lacks(1, 0, 1) = 1
            lacks(2, 1, 3) = 1
            volumeIs(1, 3) = 1
            blast(1, 3) = 12
            wayIs(0, 1, 0) = NONE
            wayIs(1, 3, 0) = NONE
            volumeIs(1, 3) = 0
            count(0) = 1
            count(1) = 9
            blast(1, 3) = NONE
            blast(0, 1) = NONE
            way(0, 1, 1, 20) = 1
            says(1, 0, 1, 1) = 20        # no VOLUME LACKS it any more
            says(2, 1, 3, 1) = 20
            lacks(0, 2, 2) = 1
            blast(2, 2) = 9
            volumeIs(0, 3) = 0
            count(0) = 1
            blast(2, 0) = NONE
            blast(-1, 0) = BEYOND
            blast(6, 0) = BEYOND
            blast(0, -1) = BEYOND
            blast(0, 4) = BEYOND
            count(0) = 1
            """);
        Script.run("4: wayIs", """
            way(0, 1, 1, 30) = 1
            volume(1, 15) = 0            # OLD: 45
            volume(2, 42) = 0            # COPIED: 37
            volume(3, 32) = 0            # LIED: hidden, above 20
            wayIs(0, 1, 0) = 1
            wayIs(0, 1, 1) = 30
            wayIs(0, 1, 2) = 3
            wayIs(0, 1, 3) = 30
            wayIs(0, 1, 4) = 45
            wayIs(1, 3, 0) = 0
            wayIs(1, 3, 2) = 3
            wayIs(1, 3, 4) = 45
            volume(0, 19) = 0
            wayIs(0, 1, 3) = 37
            wayIs(0, 1, 4) = 57
            volume(0, 0) = 19
            lacks(1, 1, 3) = 1
            wayIs(0, 1, 2) = 2
            wayIs(0, 1, 4) = 37
            lacks(0, 0, 1) = 1
            wayIs(0, 1, 3) = 37
            lacks(2, 0, 1) = 1
            wayIs(0, 1, 1) = 30
            wayIs(0, 1, 2) = 0
            wayIs(0, 1, 3) = NONE        # no VOLUME SAYS it
            wayIs(0, 1, 4) = NONE
            wayIs(0, 0, 2) = NONE        # there is no such WAY
            wayIs(0, 0, 5) = BEYOND      # asked ahead of NONE
            wayIs(0, 1, -1) = BEYOND
            wayIs(0, 1, 5) = BEYOND
            wayIs(-1, 1, 0) = BEYOND
            wayIs(6, 1, 0) = BEYOND
            wayIs(0, -1, 0) = BEYOND
            wayIs(0, 4, 0) = BEYOND
            """);
        Script.end();
    }
}
