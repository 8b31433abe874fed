/** Promises 24 and 25: VOICES and THE TRACE. */
public final class VoicesTest {
    public static void main(String[] args) {
        plainKinds();
        deepKinds();
        edges();
        Script.end();
    }

    private static void plainKinds() {
        Script.run("24: VOLUME", """
            volume(2, 5) = 0
            voice(2, 0, 7) = 9
            body(0) = 10
            body(1) = NONE
            count(4) = 1
            voice(2, 1, 7) = 18
            body(0) = 11
            body(1) = 10
            voice(2, 2, 7) = 13
            body(0) = 12
            body(1) = 11
            body(2) = 10
            count(4) = 3
            voice(2, 3, 7) = 2
            body(0) = 13
            count(4) = 1
            voice(2, 3, -7) = -2
            """);
        Script.run("24: OLD", """
            volume(1, 14) = 0
            voice(1, 0, 7) = 4
            body(0) = 20
            body(1) = 10
            voice(1, 1, 7) = 8
            body(1) = 20
            count(4) = 3
            voice(1, 2, 7) = 4
            count(4) = 4
            voice(1, 3, 9) = -1          # 9 / 3, and paces(1)
            body(0) = 21
            body(1) = 13
            body(2) = 11
            body(3) = 20
            body(4) = 10
            count(4) = 5
            """);
        Script.run("24: TURNED and LIED", """
            volume(3, 22) = 0
            voice(3, 0, 5) = 8
            voice(3, 1, 5) = -16
            body(0) = 30
            body(1) = 11
            body(2) = 10
            voice(3, 2, 5) = -18
            body(1) = 30
            voice(3, 3, 7) = -7
            volume(0, 33) = 0
            voice(0, 2, 9) = 5
            body(0) = 40
            body(1) = 12
            body(2) = 11
            body(3) = 10
            voice(0, 2, -9) = -11        # -9 / 2, cut
            voice(0, 1, 9) = 18
            voice(0, 3, 9) = 3
            """);
    }

    private static void deepKinds() {
        Script.run("24: COPIED", """
            volume(2, 47) = 0
            voice(2, 0, 6) = 12
            body(0) = 50
            body(1) = 20
            body(2) = 10
            count(4) = 3
            voice(2, 1, 6) = 24
            voice(2, 2, 6) = 19          # 17 ^ 2
            body(0) = 51
            body(1) = 12
            body(2) = 11
            body(3) = 50
            body(4) = 20
            body(5) = 10
            voice(2, 3, 20) = -2
            body(0) = 21
            body(1) = 13
            body(2) = 11
            body(3) = 50
            count(4) = 6
            """);
        Script.run("24: NIGHT and TOLD", """
            volume(1, 56) = 0
            voice(1, 1, 4) = -12
            body(0) = 60
            body(1) = 30
            body(2) = 11
            body(3) = 10
            voice(1, 2, 4) = -18
            body(0) = 12
            body(1) = 60
            voice(1, 0, 4) = 5
            voice(1, 3, 23) = 4          # NIGHT has no BODY for it, nor has TURNED
            body(0) = 13
            count(4) = 1
            volume(3, 68) = 0
            voice(3, 0, 100) = 9
            body(0) = 70
            voice(3, 1, 100) = 26
            body(0) = 71
            body(1) = 11
            body(2) = 70
            voice(3, 2, 100) = 18
            voice(3, 3, 50) = 10
            """);
    }

    private static void edges() {
        Script.run("24: ints that wrap", """
            voice(1, 0, 2147483647) = -2147483648
            voice(0, 1, 1073741824) = -2147483648
            voice(1, 3, -2147483648) = -2147483648
            voice(1, 3, 7) = -7
            voice(0, 0, -1000000006) = -1000000006
            voice(0, 0, -1000000001) = -1000000001
            told(1) = 0
            told(6) = 0
            """);
        Script.run("24: wrong, and parted", """
            voice(0, 1, 7) = 14
            voice(-1, 0, 7) = BEYOND
            voice(4, 0, 7) = BEYOND
            voice(0, -1, 7) = BEYOND
            voice(0, 4, 7) = BEYOND
            count(4) = 2                 # BEYOND changes nothing
            body(0) = 11
            body(1) = 10
            body(2) = NONE
            """);
        Script.run("24, 25: parted, with THE TRACE up to there", """
            voice(0, 1, 7) = 14
            count(4) = 2
            voice(0, 3, 7) = PARTED
            count(4) = 1
            body(0) = 13
            body(1) = NONE
            voice(4, 3, 7) = BEYOND
            count(4) = 1
            volume(3, 13) = 0
            voice(3, 3, 9) = PARTED
            count(4) = 2                 # paces(1) doesn't begin any more
            body(0) = 21
            body(1) = 13
            body(2) = NONE
            volume(2, 42) = 0
            voice(2, 3, 9) = PARTED
            count(4) = 2
            body(0) = 21
            body(1) = 13
            volume(1, 51) = 0
            voice(1, 3, 0) = PARTED
            count(4) = 1
            body(0) = 13
            volume(0, 60) = 0
            voice(0, 3, 9) = PARTED
            body(0) = 13
            told(6) = 5
            voice(3, 0, 7) = 6
            count(4) = 2
            body(0) = 20
            body(1) = 10
            """);
        Script.run("25: body", """
            body(0) = NONE
            voice(0, 0, 1) = 1
            body(0) = 10
            body(-1) = NONE
            body(1) = NONE
            body(30) = NONE
            body(2147483647) = NONE
            body(-2147483648) = NONE
            told(2) = 6
            """);
    }
}
