/** Promises 32 to 35: numbers that wait, what is counted, what was told. */
public final class ToldTest {
    public static void main(String[] args) {
        Script.run("32: tell", """
            tell(0) = 1
            tell(-2147483648) = 2
            tell(2147483647) = 3
            tell(0) = 4
            tell(0) = 5
            tell(0) = 6
            tell(0) = 7
            tell(0) = 8
            tell(0) = 9
            tell(0) = 10
            tell(0) = 11
            tell(0) = 12
            tell(0) = 13
            tell(0) = 14
            tell(0) = 15
            tell(0) = 16
            tell(0) = 17
            tell(0) = 18
            tell(0) = 19
            tell(0) = 20
            tell(0) = 21
            tell(0) = 22
            tell(0) = 23
            tell(0) = 24
            tell(0) = FULL
            count(3) = 24
            tell(7) = FULL
            check(0) = 2
            tell(7) = 1
            """);
        Script.run("33: check", """
            way(0, 1, 5, 12) = 1         # east of 0, and the last one of all, west of 5
            check(0) = 0                 # none waits
            tell(0) = 1
            tell(12) = 2
            tell(0) = 3
            check(0) = 0
            count(3) = 0
            tell(0) = 1
            tell(12) = 2
            tell(5) = 3
            tell(5) = 4
            check(0) = 3
            count(3) = 0
            tell(0) = 1
            tell(12) = 2
            tell(0) = 3
            check(0) = 0                 # what waited ahead doesn't any more
            tell(12) = 1
            check(0) = 1
            volume(1, 15) = 0
            swap(1, 0, 1) = 1
            tell(0) = 1
            tell(0) = 2
            tell(0) = 3
            tell(0) = 4
            tell(0) = 5
            tell(18) = 6
            tell(-1) = 7
            check(1) = 7
            volume(2, 21) = 0
            tell(0) = 1
            tell(0) = 2
            tell(12) = 3
            check(2) = 0
            tell(0) = 1
            tell(12) = 2
            check(4) = BEYOND            # none waits then, too
            count(3) = 0
            tell(0) = 1
            check(-1) = BEYOND
            count(3) = 0
            lacks(3, 0, 1) = 1
            tell(0) = 1
            tell(12) = 2
            check(3) = 2
            """);
        Script.run("33: check, all 24", """
            way(0, 1, 5, 12) = 1
            tell(0) = 1
            tell(12) = 2
            tell(0) = 3
            tell(0) = 4
            tell(0) = 5
            tell(0) = 6
            tell(0) = 7
            tell(0) = 8
            tell(0) = 9
            tell(0) = 10
            tell(0) = 11
            tell(0) = 12
            tell(0) = 13
            tell(0) = 14
            tell(0) = 15
            tell(0) = 16
            tell(0) = 17
            tell(0) = 18
            tell(0) = 19
            tell(0) = 20
            tell(0) = 21
            tell(0) = 22
            tell(0) = 23
            tell(13) = 24
            check(0) = 24
            """);
        Script.run("34: count", """
            way(0, 0, 0, 12) = 1
            way(1, 0, 2, 13) = 1
            count(0) = 2
            count(1) = 25
            feed(0, 3) = 3
            count(2) = 3
            tell(9) = 1
            count(3) = 1
            voice(0, 2, 3) = 6
            count(4) = 3
            seed(-1000000001) = 1
            count(5) = -1000000001       # z, no ERROR
            told(1) = 0
            count(-1) = BEYOND
            count(6) = BEYOND
            """);
        Script.run("35: told", """
            told(1) = 0
            blast(6, 0) = BEYOND
            told(1) = 1
            told(0) = BEYOND
            told(1) = 2
            told(7) = BEYOND
            told(-1) = BEYOND
            told(1) = 4
            longer(4, 0, 0) = BEYOND
            told(1) = 5
            restore() = NONE
            told(2) = 1
            sheet(0, 8, -1) = STATE
            told(3) = 1
            as(0, 1) = KIND
            told(5) = 1
            voice(0, 3, 1) = PARTED
            told(6) = 1
            told(4) = 0
            told(1) = 5
            """);
        Script.end();
    }
}
