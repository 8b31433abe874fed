/** Promises 30 and 31: the IMAGE. */
public final class ImagesTest {
    public static void main(String[] args) {
        Script.run("30, 31: what an IMAGE keeps", """
            way(0, 1, 1, 12) = 1
            volume(0, 17) = 0
            volume(1, 65) = 0
            swap(1, 0, 5) = 5
            swap(3, 4, 5) = 5
            lacks(2, 0, 1) = 1
            feed("l*2") = 3
            text(0) = 1
            feed("s") = 1
            text(1) = 1
            feed("7") = 1
            tell(24) = 1
            seed(77) = 1
            image() = 1
            says(1, 5, 1, 1) = 24
            blast(0, 1) = 12
            way(2, 0, 3, 5) = 1
            way(3, 3, 3, 6) = 1
            volume(0, 0) = 17
            volume(1, 20) = 65
            swap(3, 4, 4) = 5
            swap(3, 4, 5) = 4
            swap(1, 1, 2) = 2
            lacks(2, 2, 0) = 1
            feed("3") = 2
            text(0) = 1
            feed("8") = 1
            text(1) = 1
            feed("(((") = 3
            tell(0) = 2
            tell(1) = 3
            seed(5) = 77
            restore() = 1
            count(0) = 1
            count(1) = 12
            count(2) = 1
            count(3) = 1
            count(5) = 77
            volumeIs(1, 0) = 6
            volumeIs(1, 1) = 5
            volumeIs(1, 4) = 5
            volumeIs(1, 5) = 1
            volumeIs(2, 3) = 1
            says(2, 0, 1, 0) = NONE
            volumeIs(0, 0) = 1
            volumeIs(0, 1) = 7
            volumeIs(3, 8) = 5
            volumeIs(3, 9) = 4
            says(1, 5, 1, 1) = 24
            worth(1) = 48
            worth(0) = 40
            check(1) = 1
            text(0) = 1                  # 7, which was on THE TAPE
            says(1, 5, 1, 1) = 7
            restore() = 1                # the IMAGE stays
            says(1, 5, 1, 1) = 24
            image() = 2
            untell(1) = 1
            blast(0, 1) = 12
            image() = 3                  # in place of the one ahead
            restore() = 0
            count(0) = 0
            untell(1) = 0
            untell(0) = 1
            """);
        Script.run("30, 31: what an IMAGE doesn't keep", """
            sheet(0, 8, 1) = 1
            put(0, 0, 3) = 1
            voice(0, 0, 7) = 7
            way(6, 0, 0, 1) = BEYOND
            image() = 1
            put(0, 0, 4) = 1
            sheet(1, 8, 0) = 1
            voice(0, 1, 7) = 14
            way(6, 0, 0, 1) = BEYOND
            restore() = 0
            walk(0, 0, 0, 0) = BEYOND    # 4 stays
            walk(0, 0, 1, 0) = 0
            count(4) = 2
            body(0) = 11
            told(1) = 3
            image() = 2
            """);
        Script.run("30, 31: numbers that wait", """
            way(0, 1, 1, 12) = 1
            tell(0) = 1
            tell(12) = 2
            image() = 1
            check(0) = 0
            tell(5) = 1
            tell(6) = 2
            restore() = 1
            count(3) = 2
            check(0) = 0
            """);
        Script.run("31: restore, wrong", """
            way(0, 1, 1, 12) = 1
            restore() = NONE
            count(0) = 1
            image() = 1
            restore() = 1
            restore() = 1
            told(2) = 1
            """);
        Script.end();
    }
}
