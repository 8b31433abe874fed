/** Promises 26 to 29: SHEETS, what is put and moved, and WAYS that come from them. */
public final class SheetsTest {
    public static void main(String[] args) {
        sheets();
        puts();
        moves();
        ways();
        Script.end();
    }

    private static void sheets() {
        Script.run("26: sheet", """
            sheet(0, 8, 24) = 1
            sheet(1, 16, 0) = 1
            sheet(2, 32, 4) = 1
            walk(0, 0, 0, 3) = 0
            walk(0, 0, 1, 3) = 1
            put(2, 3, 7) = 1
            walk(0, 0, 2, 0) = BEYOND
            sheet(2, 32, 4) = 1          # all 0 again
            walk(0, 0, 2, 0) = 0
            sheet(2, 0, -5) = 1          # n doesn't matter
            walk(0, 0, 2, 0) = NONE
            sheet(2, 0, 99) = 1
            put(2, 0, 0) = NONE
            sheet(3, 0, 0) = 1
            put(3, 0, 0) = NONE
            """);
        Script.run("26: sheet, wrong", """
            sheet(0, 8, 4) = 1
            put(0, 0, 9) = 1
            sheet(-1, 8, 4) = BEYOND
            sheet(4, 8, 4) = BEYOND
            sheet(0, 7, 4) = BEYOND
            sheet(0, 64, 4) = BEYOND
            sheet(0, -8, 4) = BEYOND
            sheet(0, 24, 4) = BEYOND
            sheet(0, 8, 25) = BEYOND
            sheet(0, 8, -1) = STATE
            sheet(0, 8, -2147483648) = STATE
            sheet(4, 8, -1) = BEYOND
            sheet(0, 7, -1) = BEYOND
            walk(0, 0, 0, 0) = BEYOND    # its numbers are as they were
            put(0, 3, 0) = 1
            """);
    }

    private static void puts() {
        Script.run("27: put, the lowest bits", """
            sheet(0, 8, 1) = 1
            sheet(1, 16, 1) = 1
            sheet(2, 32, 1) = 1
            put(0, 0, 257) = 1
            walk(0, 0, 0, 1) = 0
            put(0, 0, 128) = 1
            walk(0, 0, 0, 1) = BEYOND
            put(0, 0, -1) = 1
            walk(0, 0, 0, 1) = BEYOND
            put(0, 0, -253) = 1          # 3 in 8 bits
            walk(0, 0, 0, 1) = 0
            put(1, 0, 257) = 1
            walk(0, 0, 1, 1) = BEYOND
            put(1, 0, 65537) = 1
            walk(0, 0, 1, 1) = 0
            put(2, 0, 65537) = 1
            walk(0, 0, 2, 1) = BEYOND
            put(2, 0, 3) = 1
            walk(0, 0, 2, 1) = 0
            """);
        Script.run("27: put, wrong", """
            sheet(0, 8, 3) = 1
            put(0, 2, 1) = 1
            put(0, 3, 1) = BEYOND
            put(0, -1, 1) = BEYOND
            put(0, 2147483647, 1) = BEYOND
            put(-1, 0, 1) = BEYOND
            put(4, 0, 1) = BEYOND
            put(1, 0, 1) = NONE
            put(1, 99, 1) = NONE         # asked ahead of the number
            """);
    }

    private static void moves() {
        Script.run("28: move", """
            sheet(0, 8, 5) = 1
            put(0, 3, 2) = 1
            put(0, 4, 30) = 1
            put(0, 2, 1) = 1
            move(0, 1, 0, 0, 4) = 4      # 0 1 2 30 30
            ways(0) = 1
            wayIs(0, 1, 0) = 2
            count(1) = 30
            blast(0, 1) = 30
            move(0, 0, 0, 1, 4) = 4      # 0 0 1 2 30, as they all were
            ways(0) = 1
            wayIs(0, 0, 0) = 1
            count(1) = 2
            sheet(1, 8, 6) = 1
            move(0, 1, 1, 0, 4) = 4      # 0 1 2 30 0 0
            ways(1) = 1
            wayIs(2, 3, 0) = 0
            move(1, 2, 1, 2, 4) = 4
            move(1, 6, 1, 6, 0) = 0
            move(1, 0, 0, 5, 0) = 0
            sheet(2, 8, 0) = 1
            move(2, 0, 2, 0, 0) = 0
            """);
        Script.run("28: move, wrong", """
            sheet(0, 8, 5) = 1
            sheet(1, 8, 6) = 1
            sheet(2, 16, 6) = 1
            move(-1, 0, 0, 0, 1) = BEYOND
            move(4, 0, 0, 0, 1) = BEYOND
            move(0, 0, -1, 0, 1) = BEYOND
            move(0, 0, 4, 0, 1) = BEYOND
            move(3, 0, 0, 0, 1) = NONE
            move(0, 0, 3, 0, 1) = NONE
            move(3, 0, 4, 0, 1) = BEYOND # asked ahead of NONE
            move(3, 0, 2, 0, -1) = NONE
            move(0, 0, 2, 0, 1) = KIND
            move(2, 0, 0, 0, -1) = KIND  # asked ahead of BEYOND
            move(0, 0, 1, 0, -1) = BEYOND
            move(0, -1, 1, 0, 1) = BEYOND
            move(0, 0, 1, -1, 1) = BEYOND
            move(0, 0, 1, 0, 6) = BEYOND
            move(0, 1, 1, 0, 5) = BEYOND
            move(1, 0, 0, 0, 6) = BEYOND
            move(1, 0, 0, 1, 5) = BEYOND
            move(0, 6, 1, 0, 0) = BEYOND
            move(0, 0, 1, 7, 0) = BEYOND
            move(0, 1, 1, 0, 2147483647) = BEYOND
            move(0, 2147483647, 1, 0, 1) = BEYOND
            move(0, 0, 1, 2147483647, 1) = BEYOND
            move(0, 0, 1, 0, 5) = 5
            """);
    }

    private static void ways() {
        Script.run("29: ways", """
            sheet(0, 16, 11) = 1
            put(0, 1, 1) = 1
            put(0, 2, 1) = 1
            put(0, 3, 4) = 1
            put(0, 4, 1) = 1
            put(0, 5, 2) = 1
            put(0, 6, 2) = 1
            put(0, 7, 9) = 1
            put(0, 8, 2) = 1
            put(0, 9, 3) = 1
            put(0, 10, 3) = 1
            ways(0) = 2                  # the third lacks one
            count(0) = 2
            count(1) = 13
            wayIs(1, 2, 1) = 9
            ways(0) = 0                  # refused, but no ERROR
            blast(0, 1) = 4
            ways(0) = 1                  # up to the first that is refused
            put(0, 3, 100) = 1
            blast(0, 1) = 4
            blast(1, 2) = 9
            ways(0) = 0
            count(0) = 0
            put(0, 3, 99) = 1
            put(0, 4, -1) = 1
            ways(0) = 1
            told(1) = 0
            told(3) = 0
            sheet(1, 8, 3) = 1
            ways(1) = 0
            sheet(1, 8, 0) = 1
            ways(1) = 0
            ways(2) = NONE
            ways(-1) = BEYOND
            ways(4) = BEYOND
            """);
        Script.run("29: ways, six of them", """
            sheet(0, 8, 24) = 1
            put(0, 3, 1) = 1
            put(0, 4, 1) = 1
            put(0, 6, 1) = 1
            put(0, 7, 2) = 1
            put(0, 8, 2) = 1
            put(0, 10, 2) = 1
            put(0, 11, 3) = 1
            put(0, 12, 3) = 1
            put(0, 14, 3) = 1
            put(0, 15, 4) = 1
            put(0, 16, 4) = 1
            put(0, 18, 4) = 1
            put(0, 19, 5) = 1
            put(0, 20, 5) = 1
            put(0, 22, 5) = 1
            put(0, 23, 6) = 1
            ways(0) = 6
            count(1) = 21
            """);
    }
}
