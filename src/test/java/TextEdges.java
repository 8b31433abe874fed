/** TEXTS, and promises 11 to 13. */
final class TextEdges {
    private static final String WORKED_OUT = "Ints that wrap; / cut, % the rest that it leaves, both by 0 are 0; "
        + "| & < = > ! are 1 or 0, what is not 0 being true; all is worked out.";
    private static final String FAULT = "FAULT: the place of the first byte with which no TEXT goes on; "
        + "how many there are, if it ends too early.";
    private static final String OPEN = "At most 5 of ! and ( are open at once.";

    private TextEdges() {
    }

    static void run() {
        tape();
        grammar();
        open();
        workedOut();
        faults();
        uses();
        feed();
        text();
        untell();
    }

    /** STEPS of a WAY of LENGTH 40 by VOLUME 2, which is TOLD with m 3, behind each TEXT. */
    private static String values(String... textsAndDues) {
        StringBuilder script = new StringBuilder("way(0, 0, 1, 40) = 1\nvolume(2, 63) = 0\n");
        for (int i = 0; i < textsAndDues.length; i += 2) {
            script.append(read(0, textsAndDues[i], "1"));
            script.append("says(2, 0, 0, 1) = ").append(textsAndDues[i + 1]).append('\n');
        }
        return script.toString();
    }

    /** FAULTS of TEXTS of a USE. */
    private static String faults(int use, String... textsAndFaults) {
        StringBuilder script = new StringBuilder();
        for (int i = 0; i < textsAndFaults.length; i += 2) {
            script.append(read(use, textsAndFaults[i], String.valueOf(-10 - Integer.parseInt(textsAndFaults[i + 1]))));
            script.append("count(2) = 0\n");
        }
        return script.append("untell({0 1}) = 0\ntold({1 2 3 4 5 6}) = 0\n").toString();
    }

    private static String read(int use, String text, String due) {
        String fed = text.isEmpty() ? "" : "feed(\"" + text + "\") = " + text.length() + '\n';
        return fed + "text(" + use + ") = " + due + '\n';
    }

    private static void tape() {
        Edges.terms("TEXTS are read from THE TAPE (bytes, at most 60):", """
            count(2) = 0
            feed("1+1+1+1+1+1+1+1+1+1+1+1+1+1+1+1+1+1+1+1+1+1+1+1+1+1+1+1+1+") = 58
            feed(12595, 2) = 60          # 3, 1
            feed(49, {1 8}) = FULL
            count(2) = 60
            way(0, 0, 1, 40) = 1
            volume(0, 60) = 0
            text(0) = 1
            count(2) = 0
            says(0, 0, 0, 1) = 60
            feed("1+1+1+1+1+1+1+1+1+1+1+1+1+1+1+1+1+1+1+1+1+1+1+1+1+1+1+1+1+1") = 59
            feed(50, 2) = FULL
            feed(50, 1) = 60
            text(0) = 1
            says(0, 0, 0, 1) = 41
            feed(0, 1) = 1               # any byte
            feed(255, 1) = 2
            text(0) = -10
            feed(255, 1) = 1
            text(0) = -10
            """);
    }

    private static void grammar() {
        Edges.terms("T: A { | A }.", values("5", "5", "(0|0)+7", "7", "(0|3)+7", "8", "(0|0|0|0|2)+7", "8",
            "(4|0)+7", "8", "(0&0|1)+7", "8", "(1|0&0)+7", "8"));
        Edges.terms("T: A { | A }.", faults(0, "|1", "0", "1|", "2", "1||1", "2", "1|1|", "4"));
        Edges.terms("A: B { & B }.", values("(2&4)+7", "8", "(2&0)+7", "7", "(0&2)+7", "7", "(1&1&1&0)+7", "7",
            "(3&2<1)+7", "7", "(3&1<2)+7", "8"));
        Edges.terms("A: B { & B }.", faults(0, "&1", "0", "1&", "2", "1&&1", "2", "1&1&", "4"));
        Edges.terms("B: S, or S < S, S = S, S > S.", values("(2<3)+7", "8", "(3<3)+7", "7", "(4<3)+7", "7",
            "(2=3)+7", "7", "(3=3)+7", "8", "(4=3)+7", "7", "(2>3)+7", "7", "(3>3)+7", "7", "(4>3)+7", "8",
            "(1+1<1+2)+7", "8", "((1<2)<2)+7", "8", "(2<3&3>2|0)+7", "8"));
        Edges.terms("B: S, or S < S, S = S, S > S.", faults(0, "1<2<3", "3", "1=1=1", "3", "3>2>1", "3", "1<2=1", "3",
            "1<", "2", "<1", "0", "1<=2", "2", "1<2&2<3>1", "7", "(1>2<3)", "4"));
        Edges.terms("S: P { + P, - P }.", values("20-4-3", "13", "20-4+3", "19", "20-(4+3)", "13", "20-4*3", "8",
            "1+1+1+1", "4"));
        Edges.terms("S: P { + P, - P }.", faults(0, "+1", "0", "-1", "0", "1+", "2", "1-", "2", "1+-1", "2", "1--1", "2"));
        Edges.terms("P: Q { * Q, / Q, % Q }.", values("20/4/2", "2", "20/4*2", "10", "20/(4*2)", "2", "23%9*2", "10",
            "2*23%9", "1", "2*3*4*5", "120", "!0*9", "9", "9*!0", "9"));
        Edges.terms("P: Q { * Q, / Q, % Q }.", faults(0, "*1", "0", "/1", "0", "%1", "0", "1*", "2", "1/", "2", "1%", "2",
            "1*/2", "2", "1**2", "2"));
        Edges.terms("Q: a NUMBER of 1 to 4 digits, a NAME, ! Q, ( T ).", values("7", "7", "42", "42", "421", "421",
            "9999/11", "909", "0007", "7", "0000+7", "7", "1000-1", "999", "l", "40", "m", "3", "v", "2", "!0", "1",
            "!!7+1", "2", "!1+7", "7", "(l)", "40", "(0|9)", "1", "!(1-1)+7", "8"));
        Edges.terms("Q: a NUMBER of 1 to 4 digits, a NAME, ! Q, ( T ).", faults(0, "12345", "4", "00000", "4", "1+98765", "6",
            "1l", "1", "l1", "1", "lm", "1", "L", "0", "s", "0", "k", "0", "n", "0", "!", "1", "!)", "1", "1!", "1",
            "()", "1", "(1", "2", "(1))", "3", "1)", "1", ")", "0", "(1]", "2", "1(", "1"));
        Edges.terms("No blanks.", faults(0, " ", "0", " 1", "0", "1 ", "1", "1 +1", "1", "1+ 1", "2", "1\t", "1",
            "(1 )", "2"));
    }

    private static void open() {
        Edges.terms(OPEN, values("!!!!!0", "1", "(((((l)))))", "40", "!(!(!0))+6", "7", "(!(!(0)))+7", "7",
            "(((((l)))))+(((((l)))))", "80", "!!!!!0+!!!!!0", "2", "((((!l))))+((((!l))))+7", "7",
            "!0+!0+!0+!0+!0+!0+!0", "7", "(1)+(1)+(1)+(1)+(1)+(1)", "6", "(!!!!1)*(!!!!1)+6", "7"));
        Edges.terms(OPEN, faults(0, "!!!!!!0", "5", "((((((l))))))", "5", "!(!(!(l", "5", "(!(!(!l", "5", "!!!!!(l)", "5",
            "(((((!l)))))", "5", "(((((l))))+!!!!!", "15", "(((((l)+1)+1)+1)+!!!!!0)", "21"));
        Edges.terms(OPEN, faults(1, "!!!!!!0", "5", "((((((s))))))", "5"));
    }

    private static void workedOut() {
        // 2048*1024*1024 is the least int, and 1 less the greatest.
        Edges.terms(WORKED_OUT, values("(2048*1024*1024<0)*7", "7", "(2048*1024*1024-1>0)*7", "7",
            "(2048*1024*1024-1+1<0)*7", "7", "(2048*1024*1024-1)/9999/999", "214", "(2048*1024*1024*(0-1)<0)*7", "7",
            "4096*1024*1024+7", "7"));
        Edges.terms(WORKED_OUT, values("(2048*1024*1024/(0-1)<0)*7", "7", "2048*1024*1024%(0-1)+7", "7",
            "(0-2048*1024*1024<0)*7", "7", "(2048*1024*1024-1)%9999-8000", "416"));
        Edges.terms(WORKED_OUT, values("7/2", "3", "(0-7)/2+10", "7", "7/(0-2)+10", "7", "(0-7)/(0-2)", "3",
            "7%4", "3", "(0-7)%4+10", "7", "7%(0-4)", "3", "(0-7)%(0-4)+10", "7", "1/2+7", "7", "1%2+7", "8"));
        Edges.terms(WORKED_OUT, values("5/0+7", "7", "5%0+7", "7", "0/0+7", "7", "0%0+7", "7", "(0-5)/0+7", "7",
            "2048*1024*1024/0+7", "7", "2048*1024*1024%0+7", "7", "(1|5/0)+7", "8", "(0&5%0)+7", "7"));
        Edges.terms(WORKED_OUT, values("(5|0)+7", "8", "((0-1)|0)+7", "8", "(0|(0-1))+7", "8", "((0-1)&(0-2))+7", "8",
            "(2&1)+7", "8", "!5+7", "7", "!(0-1)+7", "7", "!0+7", "8", "((0-1)<0)+7", "8", "((0-1)>(0-2))+7", "8"));
    }

    private static void faults() {
        Edges.terms(FAULT, faults(0, "", "0", "x", "0", "x1", "0", "1x", "1", "1+", "2", "1+x", "2", "(", "1", "(1", "2",
            "(1+", "3", "!", "1", "1<2<", "3", "1\0", "1", "1\u00ff", "1", "\u00ff", "0", "1|1&1<1+1*", "10"));
        Edges.terms(FAULT, faults(0, "l+".repeat(30), "60", "l+".repeat(29) + "l1", "59", "l+".repeat(29) + "+l", "58",
            "1".repeat(60), "4"));
    }

    private static void uses() {
        Edges.terms("USES: 0 STEPS (of a TOLD one): NAMES l LENGTH, m m, v its number; held as told; "
            + "without a TEXT as VOLUME.", """
            way(0, 0, 1, 99) = 1
            volume(0, 60) = 0
            volume(3, 69) = 0
            says({0 3}, 0, 0, 1) = 99
            feed("l*4+m*10+v") = 10
            text(0) = 1
            says(0, 0, 0, 1) = 396
            says(3, 0, 0, 1) = 489
            says({1 2}, 0, 0, 1) = 99    # not of a TOLD one
            feed("s") = 1
            text(0) = -10
            feed("l*999") = 5
            text(0) = 1
            says({0 3}, 0, 0, 1) = 999
            feed("m-9") = 3
            text(0) = 1
            says({0 3}, 0, 0, 1) = 1
            untell(0) = 1
            says({0 3}, 0, 0, 1) = 99
            """);
        Edges.terms("1 VALUE (of a WAY that is said): NAMES s STEPS, l LENGTH, v the VOLUME; held within -99 .. 99; "
            + "without a TEXT 1.", """
            worth({0 1 2 3}) = 0
            way(0, 0, 1, 50) = 1
            worth({0 1 2 3}) = 2
            volume(3, 15) = 0
            volume(2, 30) = 0            # HIDES it
            worth(2) = 0
            feed("s-l+v") = 5
            text(1) = 1
            worth(0) = 0
            worth(1) = 2
            worth(2) = 0
            worth(3) = 56                # 75 less 50, and 3
            feed("m") = 1
            text(1) = -10
            feed("98") = 2
            text(1) = 1
            worth(0) = 196
            feed("99") = 2
            text(1) = 1
            worth(0) = 198
            feed("100") = 3
            text(1) = 1
            worth(0) = 198
            feed("0-98") = 4
            text(1) = 1
            worth(0) = -196
            feed("0-99") = 4
            text(1) = 1
            worth(0) = -198
            feed("0-100") = 5
            text(1) = 1
            worth(0) = -198
            feed("2048*1024*1024") = 14
            text(1) = 1
            worth(0) = -198
            feed("2048*1024*1024-1") = 16
            text(1) = 1
            worth(0) = 198
            feed("0") = 1
            text(1) = 1
            worth({0 1 2 3}) = 0
            untell(1) = 1
            worth(0) = 2
            """);
    }

    private static void feed() {
        Edges.promise(11, "The n lowest bytes (1 .. 8) of a word, the lowest first, come to THE TAPE: how many there "
            + "are.", """
            way(0, 0, 1, 40) = 1
            volume(0, 63) = 0
            feed(7155308, 1) = 1         # l of l.m
            text(0) = 1
            says(0, 0, 0, 1) = 40
            feed(3683121, 2) = 2         # 13 of 138
            feed(48, 1) = 3
            text(0) = 1
            says(0, 0, 0, 1) = 130
            feed(3542979593435296101, 8) = 8
            text(0) = -10                # e1+1+1+1
            feed(3545224821848746801, 8) = 8
            text(0) = 1
            says(0, 0, 0, 1) = 34        # 1+1+1+31
            feed(-1, 8) = 8
            feed(MIN, 8) = 16
            feed(MAX, 1) = 17
            count(2) = 17
            text(0) = -10
            """);
        Edges.promise(11, "BEYOND.", """
            feed(49, {0 9 -1 MIN MAX}) = BEYOND
            count(2) = 0
            feed(49, 1) = 1
            feed(49, 8) = 9
            feed({0 -1 MIN MAX}, {0 9}) = BEYOND
            count(2) = 9
            """);
        Edges.promise(11, "FULL.", """
            feed(0, 8) = 8
            feed(0, 8) = 16
            feed(0, 8) = 24
            feed(0, 8) = 32
            feed(0, 8) = 40
            feed(0, 8) = 48
            feed(0, 5) = 53
            feed(0, 8) = FULL
            feed(0, 7) = 60
            feed(0, {1 2 8}) = FULL
            feed(0, {0 9}) = BEYOND      # ahead of FULL
            count(2) = 60
            text(0) = -10
            feed(0, 8) = 8
            """);
    }

    private static void text() {
        Edges.promise(12, "THE TAPE, which is empty then, is the TEXT of a USE (0, 1), in place of one ahead: 1.", """
            way(0, 0, 1, 40) = 1
            volume(0, 63) = 0
            feed("7") = 1
            text(0) = 1
            count(2) = 0
            says(0, 0, 0, 1) = 7
            worth(0) = 2
            feed("8+0+0+0") = 7
            text(1) = 1
            count(2) = 0
            says(0, 0, 0, 1) = 7
            worth(0) = 16
            feed("1+1") = 3
            text(1) = 1
            worth(0) = 4
            feed("9") = 1
            text(0) = 1
            says(0, 0, 0, 1) = 9
            worth(0) = 4
            untell({0 1}) = 1
            """);
        Edges.promise(12, "BEYOND (THE TAPE stays).", """
            feed("7") = 1
            text({-1 2 MIN MAX}) = BEYOND
            count(2) = 1
            way(0, 0, 1, 40) = 1
            volume(0, 63) = 0
            text(0) = 1
            says(0, 0, 0, 1) = 7
            text({-1 2}) = BEYOND        # of none on THE TAPE, too
            feed("+") = 1
            text({-1 2}) = BEYOND        # and of one that is no TEXT
            count(2) = 1
            text(1) = -10
            """);
        Edges.promise(12, "-10 less the FAULT (no ERROR; the one ahead stays; THE TAPE is empty, too).", """
            way(0, 0, 1, 40) = 1
            volume(0, 63) = 0
            text({0 1}) = -10            # the least FAULT
            feed("7") = 1
            text(0) = 1
            feed("8") = 1
            text(1) = 1
            feed("9+") = 2
            text(0) = -12
            count(2) = 0
            feed("9+m") = 3
            text(1) = -12
            count(2) = 0
            says(0, 0, 0, 1) = 7
            worth(0) = 16
            feed("1+1+1+1+1+1+1+1+1+1+1+1+1+1+1+1+1+1+1+1+1+1+1+1+1+1+1+1+1+1+") = 60
            text(0) = -70                # the greatest
            count(2) = 0
            says(0, 0, 0, 1) = 7
            told({1 2 3 4 5 6}) = 0
            """);
    }

    private static void untell() {
        Edges.promise(13, "There is no TEXT of a USE any more: 1 if there was, else 0.", """
            untell({0 1}) = 0
            feed("7") = 1
            text(0) = 1
            untell(1) = 0
            untell(0) = 1
            untell(0) = 0
            feed("7") = 1
            text(1) = 1
            untell(0) = 0
            untell(1) = 1
            untell(1) = 0
            feed("+") = 1
            text(1) = -10
            untell(1) = 0
            """);
        Edges.promise(13, "BEYOND.", """
            feed("7") = 1
            text(0) = 1
            feed("8") = 1
            text(1) = 1
            untell({-1 2 MIN MAX}) = BEYOND
            untell({0 1}) = 1
            """);
    }
}
