/** Promises 20 to 23: BOY, WORTH, LONGER and LEFT OUT. */
public final class KnowingTest {
    public static void main(String[] args) {
        boy();
        worth();
        longer();
        leftOut();
        Script.end();
    }

    private static void boy() {
        Script.run("20: boy", """
            boy(0, 0) = NONE
            way(0, 0, 1, 10) = 1
            boy(0, 0) = 1
            boy(0, 1) = 1
            boy(0, 2) = 1
            boy(1, 2) = 3
            volume(1, 15) = 0            # 15
            volume(2, 30) = 0            # nothing
            volume(3, 45) = 0            # 16
            boy(0, 0) = 4
            boy(0, 1) = 1
            boy(0, 2) = 1
            boy(2, 0) = NONE
            boy(2, 3) = BEYOND           # asked ahead of NONE
            boy(0, -1) = BEYOND
            boy(0, 3) = BEYOND
            boy(-1, 0) = BEYOND
            boy(6, 0) = BEYOND
            """);
        Script.run("20: boy, longer rows", """
            volume(1, 11) = 0
            way(0, 1, 1, 5) = 1          # 5 by both, cut
            way(1, 1, 2, 5) = 1
            boy(0, 0) = 1
            boy(0, 2) = 2
            way(2, 1, 3, 30) = 1         # 30 and 33
            boy(0, 0) = 2
            boy(0, 1) = 3
            boy(0, 2) = 222
            boy(1, 1) = 2
            boy(1, 2) = 22
            boy(2, 2) = 2                # the shortest first
            boy(3, 2) = 4
            way(2, 0, 4, 30) = 1
            boy(2, 2) = 1                # then the least row
            boy(0, 2) = 221
            way(4, 0, 5, 1) = 1
            boy(5, 2) = 33
            volume(2, 34) = 0            # LIED: bends what is 4 or less, and says it all the same
            boy(5, 0) = 2
            volume(2, 32) = 34           # LIED: hides 30
            boy(5, 0) = 3
            boy(5, 2) = 33
            lacks(3, 5, 2) = 1
            boy(5, 0) = 3
            boy(0, 2) = 221
            """);
        Script.run("20: boy, no more than three WAYS", """
            volume(1, 11) = 0
            way(0, 1, 1, 5) = 1
            way(1, 1, 2, 5) = 1
            way(2, 1, 3, 5) = 1
            way(3, 1, 4, 30) = 1
            boy(0, 0) = 1
            boy(0, 2) = 2
            boy(1, 0) = 2
            boy(1, 2) = 222
            """);
        Script.run("20: boy, nothing is one thing", """
            way(0, 3, 0, 50) = 1
            lacks(0, 0, 3) = 1
            lacks(1, 0, 3) = 1
            boy(0, 0) = 2
            lacks(2, 0, 3) = 1
            lacks(3, 0, 3) = 1
            boy(0, 0) = 1
            boy(0, 1) = 1
            boy(0, 2) = 2                # east leads to itself, too
            """);
        Script.run("20: boy, nothing is unlike any STEPS", """
            way(0, 0, 1, 1) = 1
            volume(1, 30) = 0
            boy(0, 0) = 2
            boy(0, 1) = 1
            """);
        Script.run("20: boy, a silent first WAY", """
            volume(1, 31) = 0            # LIED: hides 11 and more
            way(0, 0, 1, 11) = 1
            way(1, 1, 2, 5) = 1
            volume(2, 10) = 0
            volume(3, 41) = 0            # 13, then 6
            boy(0, 0) = 3
            boy(0, 2) = 1
            boy(1, 0) = 3
            boy(1, 2) = 3
            boy(2, 0) = 3                # 16, nothing and 19 by two WAYS
            boy(2, 2) = 43
            """);
    }

    private static void worth() {
        Script.run("21: worth", """
            worth(0) = 0
            way(0, 1, 1, 12) = 1
            way(2, 0, 2, 30) = 1
            worth(0) = 4
            lacks(0, 2, 0) = 1
            worth(0) = 2
            volume(1, 31) = 0
            worth(1) = 0
            volume(1, 32) = 31
            worth(1) = 2
            feed("s+l-v") = 5
            text(1) = 1
            worth(0) = 48
            worth(2) = 160               # 22, 22, 58, 58
            volume(3, 15) = 0
            worth(3) = 198               # 27, 27, 72, 72
            feed("s-20") = 4
            text(1) = 1
            worth(2) = 4
            worth(-1) = BEYOND
            worth(4) = BEYOND
            """);
    }

    private static void longer() {
        Script.run("22: longer", """
            longer(0, 1, 0) = 0
            longer(0, 1, 1) = 1
            way(0, 1, 1, 10) = 1
            way(2, 1, 3, 30) = 1
            volume(1, 15) = 0
            longer(1, 0, 0) = 3
            longer(1, 0, 1) = 2
            longer(0, 1, 0) = 2
            longer(0, 1, 1) = 3
            longer(1, 1, 0) = 1
            longer(1, 1, 1) = 1
            volume(2, 32) = 0            # hides 30
            volume(1, 11) = 15
            longer(1, 2, 0) = 11
            longer(1, 2, 1) = 10
            lacks(1, 0, 1) = 1
            longer(1, 2, 0) = 0          # no WAY that both SAY
            longer(1, 2, 1) = 1
            longer(0, 1, 0) = 10
            longer(0, 1, 1) = 11
            way(0, 0, 4, 10) = 1
            longer(1, 2, 0) = 11         # and this way, said by both, is the only one
            longer(1, 2, 1) = 10
            volume(3, 19) = 0
            longer(3, 1, 0) = 19         # 57 and 19, by 33 and 11
            longer(3, 1, 1) = 11
            longer(0, 1, 2) = BEYOND
            longer(0, 1, -1) = BEYOND
            longer(-1, 1, 0) = BEYOND
            longer(4, 1, 0) = BEYOND
            longer(0, -1, 0) = BEYOND
            longer(0, 4, 0) = BEYOND
            """);
        Script.run("22: a WAY from a PLACE to itself", """
            volume(1, 11) = 0
            way(0, 0, 0, 10) = 1
            way(1, 1, 2, 5) = 1
            longer(1, 0, 0) = 16         # 11 and 5, by 10 and 5
            longer(1, 0, 1) = 15
            """);
    }

    private static void leftOut() {
        Script.run("23: leftOut", """
            leftOut(0) = NONE
            way(3, 1, 4, 50) = 1
            way(2, 1, 5, 49) = 1
            leftOut(0) = NONE
            lacks(0, 2, 1) = 1
            leftOut(0) = 8
            way(0, 3, 0, 49) = 1
            lacks(2, 0, 1) = 1
            leftOut(2) = 6               # east of 0, to itself
            lacks(2, 2, 1) = 1
            leftOut(2) = 6               # of two as long the least
            blast(0, 1) = 49
            lacks(0, 3, 1) = 1
            leftOut(0) = 9               # the greatest LENGTH
            way(0, 2, 1, 50) = 1
            leftOut(0) = 9
            volume(1, 30) = 0
            leftOut(1) = 1               # north of 1, the least of all that are 50 long
            volume(1, 35) = 30           # hides what is above 50
            leftOut(1) = NONE
            volume(1, 34) = 35
            leftOut(1) = 1
            blast(1, 0) = 50
            leftOut(1) = 9
            swap(1, 3, 0) = 0
            volume(1, 30) = 34
            leftOut(1) = 9               # by PLACES, not by SPOTS
            leftOut(-1) = BEYOND
            leftOut(4) = BEYOND
            """);
    }
}
