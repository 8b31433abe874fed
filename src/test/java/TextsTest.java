/** Promises 11 to 13: THE TAPE and TEXTS. */
public final class TextsTest {
    private static final int FAULT = -10;
    private static int told = 0;

    public static void main(String[] args) {
        tape();
        places();
        values();
        faults();
        Script.end();
    }

    private static void tape() {
        Script.run("11: feed", """
            feed(228428950124, 1) = 1    # l of l*m/5
            count(2) = 1
            feed(0, 0) = BEYOND
            feed(0, 9) = BEYOND
            feed(0, -1) = BEYOND
            count(2) = 1
            feed(-1, 8) = 9
            feed(-1, 8) = 17
            feed(-1, 8) = 25
            feed(-1, 8) = 33
            feed(-1, 8) = 41
            feed(-1, 8) = 49
            feed(-1, 8) = 57
            feed(-1, 4) = FULL
            count(2) = 57
            feed(-1, 3) = 60
            feed(-1, 1) = FULL
            feed(-1, 9) = BEYOND         # asked ahead of FULL
            count(2) = 60
            text(0) = -11
            count(2) = 0
            feed(1, 2) = 2
            """);
        Script.run("11: feed, the lowest byte first", """
            way(0, 0, 1, 40) = 1
            volume(0, 63) = 0
            feed(3486513, 3) = 3         # 1, 3, 5
            text(0) = 1
            says(0, 0, 0, 1) = 135
            feed(4050765991979987505, 8) = 8
            text(0) = -14
            """);
    }

    private static void places() {
        Script.run("12, 13: uses", """
            way(0, 0, 1, 40) = 1
            volume(0, 63) = 0
            volume(3, 65) = 0
            feed("l+m") = 3
            text(2) = BEYOND
            text(-1) = BEYOND
            count(2) = 3
            text(0) = 1
            count(2) = 0
            says(0, 0, 0, 1) = 43
            says(3, 0, 0, 1) = 45        # each VOLUME by its own m
            says(1, 0, 0, 1) = 40        # STEPS are of TOLD ones alone
            feed("v*10+m") = 6
            text(0) = 1
            says(0, 0, 0, 1) = 3
            says(3, 0, 0, 1) = 35
            feed("l+") = 2
            text(0) = -12
            count(2) = 0
            says(3, 0, 0, 1) = 35        # the one ahead stays
            text(0) = -10                # none on THE TAPE
            says(3, 0, 0, 1) = 35
            worth(0) = 2
            feed("!l") = 2
            text(0) = 1
            says(3, 0, 0, 1) = 1
            feed("v*10+m") = 6
            text(0) = 1
            feed("l") = 1
            text(0) = 1
            says(3, 0, 0, 1) = 40        # nothing is left of the ones ahead
            feed("!l") = 2
            text(0) = 1
            feed("l") = 1
            text(0) = 1
            says(3, 0, 0, 1) = 40
            feed("v*10+m") = 6
            text(0) = 1
            feed("s*10+v") = 6
            text(1) = 1
            worth(0) = 60                # 3 * 10, from both ends
            worth(1) = 198               # 401, held within 99
            untell(0) = 1
            untell(0) = 0
            says(3, 0, 0, 1) = 40
            worth(3) = 198
            untell(1) = 1
            untell(1) = 0
            worth(3) = 2
            untell(2) = BEYOND
            untell(-1) = BEYOND
            """);
        Script.run("12: held", """
            way(0, 0, 1, 40) = 1
            volume(0, 60) = 0
            feed("l*999") = 5
            text(0) = 1
            says(0, 0, 0, 1) = 999
            feed("l*0") = 3
            text(0) = 1
            says(0, 0, 0, 1) = 1
            feed("0-l") = 3
            text(0) = 1
            says(0, 0, 0, 1) = 1
            feed("959+l") = 5
            text(0) = 1
            says(0, 0, 0, 1) = 999
            feed("958+l") = 5
            text(0) = 1
            says(0, 0, 0, 1) = 998
            feed("0-9*l") = 5
            text(1) = 1
            worth(1) = -198
            feed("0-59-l") = 6
            text(1) = 1
            worth(1) = -198
            feed("0-58-l") = 6
            text(1) = 1
            worth(1) = -196
            feed("l-s") = 3
            text(1) = 1
            worth(0) = -198              # of STEPS as they are held: 40 less 998
            worth(1) = 0
            """);
    }

    /** The STEPS of a WAY of LENGTH 40 in a TOLD VOLUME 0 with m 3, by a TEXT. */
    private static void value(String text, int due) {
        BlindMaps x = new BlindMaps();
        x.way(0, 0, 1, 40);
        x.volume(0, 63);
        Script.feed(x, text);
        compare(text, x.text(0), 1);
        compare(text, x.says(0, 0, 0, 1), due);
    }

    private static void fault(int use, String text, int due) {
        BlindMaps x = new BlindMaps();
        Script.feed(x, text);
        compare(text, x.text(use), FAULT - due);
        compare(text, x.count(2), 0);
        compare(text, x.untell(use), 0);
        for (int k = 1; k <= 6; k++) {
            compare(text, x.told(k), 0);
        }
    }

    private static void compare(String text, int got, int due) {
        told++;
        if (got != due) {
            Script.fail("12: text " + told, text + " gave " + got + ", due is " + due);
        }
    }

    private static void values() {
        value("l", 40);
        value("0007", 7);
        value("9999/100", 99);
        value("l+m*2", 46);
        value("(l+m)*2", 86);
        value("l-m-1", 36);
        value("100/l*m", 6);
        value("7%4*3", 9);
        value("90-80/5%7", 88);
        value("(2+3<4)*50+7", 7);
        value("(2<3)*50+7", 57);
        value("(3<3)*50+7", 7);
        value("(3=3)*50+7", 57);
        value("(3=4)*50+7", 7);
        value("(4>3)*50+7", 57);
        value("(3>3)*50+7", 7);
        value("(1|0&0)*50+7", 57);
        value("(2&4)*50+7", 57);
        value("(1&1)*50+7", 57);
        value("(0&1)*50+7", 7);
        value("(1&0)*50+7", 7);
        value("(2|4)*50+7", 57);
        value("(0|1)*50+7", 57);
        value("(1|0)*50+7", 57);
        value("(0|0|0)*50+7", 7);
        value("(1&1&0)*50+7", 7);
        value("(3&2<1)*50+7", 7);
        value("((0-1)&1)*50+7", 57);
        value("!0*9", 9);
        value("!5+7", 7);
        value("!!7*5", 5);
        value("5/0+7", 7);
        value("5%0+7", 7);
        value("(0-7)/2+10", 7);
        value("(0-7)%4+10", 7);
        value("(9999*9999*22<0)*50+7", 57);
        value("(2048*1024*1024/(0-1)<0)*50+7", 57);
        value("2048*1024*1024%(0-1)+7", 7);
        value("(((((l)))))", 40);
        value("!!!!!0*9", 9);
        value("!l+!l+!l+!l+!l+!l+7", 7);
        value("(!(!(l)))*9", 9);
        value("!!(!!l)+8", 9);
        value("(l<m)<l", 1);
        value("10" + "+m".repeat(29), 97);
    }

    private static void faults() {
        fault(0, "", 0);
        fault(0, "x", 0);
        fault(0, "L", 0);
        fault(0, "s", 0);
        fault(1, "m", 0);
        fault(1, "s+l+v+m", 6);
        fault(0, "+l", 0);
        fault(0, ")", 0);
        fault(0, "12345", 4);
        fault(0, "l5", 1);
        fault(0, "5l", 1);
        fault(0, "l l", 1);
        fault(0, "l+", 2);
        fault(0, "l+ ", 2);
        fault(0, "l<3|", 4);
        fault(0, "(l", 2);
        fault(0, "(l))", 3);
        fault(0, "(l]", 2);
        fault(0, "()", 1);
        fault(0, "l(", 1);
        fault(0, "l!", 1);
        fault(0, "l<m<l", 3);
        fault(0, "l=m>l", 3);
        fault(0, "(l<m=l)", 4);
        fault(0, "l<m&l>", 6);
        fault(0, "!", 1);
        fault(0, "!+", 1);
        fault(0, "l--l", 2);
        fault(0, "!!!!!!l", 5);
        fault(0, "((((((l", 5);
        fault(0, "!(!(!(l", 5);
        fault(0, "!!!!!(l)", 5);
        fault(0, "(((((l))))", 10);
        fault(0, "(l)+!(!(!(l", 9);
        fault(0, "l\0", 1);
        fault(0, "l\u00ff", 1);
        fault(0, "l+".repeat(30), 60);
    }
}
