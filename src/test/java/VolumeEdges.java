/** VOLUMES, what they SAY, and promises 5 to 10. */
final class VolumeEdges {
    private static final String KINDS = "VOLUMES 0 .. 3, of KINDS (at first 0, m 0): 0 VOLUME, 1 OLD under VOLUME, "
        + "2 TURNED under VOLUME, 3 LIED under VOLUME, 4 COPIED under OLD, 5 NIGHT under TURNED, "
        + "6 TOLD under VOLUME; each with a number m (0 .. 9);";
    private static final String TURN = "TURN (0 .. 3: by so many quarters its WAYS are named further on): "
        + "VOLUME: 0. TURNED: m modulo 4. NIGHT: as TURNED, and 2, modulo 4. (Others as the KIND above.)";
    private static final String STEPS = "STEPS of a LENGTH: VOLUME: the LENGTH. "
        + "OLD: LENGTH times (10 and m) by 10. COPIED: as OLD, and 1. TURNED, NIGHT, LIED: as the KIND above. "
        + "TOLD: what STEPS (a TEXT) gives.";

    private VolumeEdges() {
    }

    static void run() {
        kinds();
        turns();
        steps();
        hiding();
        bending();
        saying();
        volume();
        volumeIs();
        as();
        swap();
        lacks();
        says();
    }

    /** VOLUME 0 becomes one of a KIND with each m, from 0 on, and a call behind each has its due. */
    private static String byM(int kind, String call, String dues) {
        StringBuilder script = new StringBuilder();
        int was = 0;
        int m = 0;
        for (String due : dues.trim().split("\\s+")) {
            int km = 10 * kind + m;
            script.append("volume(0, ").append(km).append(") = ").append(was).append('\n');
            script.append(call).append(" = ").append(due).append('\n');
            was = km;
            m++;
        }
        return script.toString();
    }

    private static void kinds() {
        Edges.terms(KINDS, """
            volumeIs({0 1 2 3}, {0 1}) = 0
            volumeIs({-1 4 MIN MAX}, 0) = BEYOND
            volume(3, 69) = 0
            volumeIs(3, 0) = 6
            volumeIs(3, 1) = 9
            volume(3, 60) = 69
            volumeIs(3, 0) = 6
            volumeIs(3, 1) = 0
            volume(3, {-1 70}) = BEYOND
            volume(3, 0) = 60
            as(3, 0) = 0
            as(3, {1 2 3 4 5 6}) = KIND
            volume(3, 11) = 0
            as(3, {0 1}) = 1
            as(3, {2 3 4 5 6}) = KIND
            volume(3, 22) = 11
            as(3, {0 2}) = 2
            as(3, {1 3 4 5 6}) = KIND
            volume(3, 33) = 22
            as(3, {0 3}) = 3
            as(3, {1 2 4 5 6}) = KIND
            volume(3, 44) = 33
            as(3, {0 1 4}) = 4
            as(3, {2 3 5 6}) = KIND
            volume(3, 55) = 44
            as(3, {0 2 5}) = 5
            as(3, {1 3 4 6}) = KIND
            volume(3, 66) = 55
            as(3, {0 6}) = 6
            as(3, {1 2 3 4 5}) = KIND
            volumeIs({0 1 2}, 0) = 0
            """);
        Edges.terms("an ORDER: which SPOT (0 .. 5) each PLACE is in it, each SPOT once (at first its own number);", """
            volumeIs({0 1 2 3}, 4) = 0
            volumeIs({0 1 2 3}, 9) = 5
            swap(2, 0, 5) = 5
            swap(2, 0, 1) = 1
            swap(2, 4, 3) = 3
            volumeIs(2, 4) = 1
            volumeIs(2, 5) = 5
            volumeIs(2, 6) = 2
            volumeIs(2, 7) = 4
            volumeIs(2, 8) = 3
            volumeIs(2, 9) = 0
            volumeIs({0 1 3}, 4) = 0
            volumeIs({0 1 3}, 9) = 5
            """);
        Edges.terms("LACKS: WAYS it leaves out (none at first; a WAY and the one back alike).", """
            way(0, 3, 5, 7) = 1
            volumeIs({0 1 2 3}, 3) = 0
            lacks(3, 5, 1) = 1
            volumeIs(3, 3) = 1
            says(3, {0 5}, {0 1 2 3}, 0) = NONE
            says({0 1 2}, 0, 3, 0) = 5
            lacks(3, 0, 3) = 0
            volumeIs(3, 3) = 0
            says(3, 0, 3, 0) = 5
            says(3, 5, 1, 0) = 0
            """);
    }

    private static void turns() {
        Edges.terms(TURN, byM(0, "volumeIs(0, 2)", "0 0 0 0 0 0 0 0 0 0"));
        Edges.terms(TURN, byM(1, "volumeIs(0, 2)", "0 0 0 0 0 0 0 0 0 0"));
        Edges.terms(TURN, byM(2, "volumeIs(0, 2)", "0 1 2 3 0 1 2 3 0 1"));
        Edges.terms(TURN, byM(3, "volumeIs(0, 2)", "0 0 0 0 0 0 0 0 0 0"));
        Edges.terms(TURN, byM(4, "volumeIs(0, 2)", "0 0 0 0 0 0 0 0 0 0"));
        Edges.terms(TURN, byM(5, "volumeIs(0, 2)", "2 3 0 1 2 3 0 1 2 3"));
        Edges.terms(TURN, byM(6, "volumeIs(0, 2)", "0 0 0 0 0 0 0 0 0 0"));
        Edges.terms(TURN, """
            way(0, 0, 1, 1) = 1
            way(0, 1, 2, 1) = 1
            way(0, 2, 3, 1) = 1
            way(0, 3, 4, 1) = 1
            volume(0, 21) = 0
            says(0, 0, 1, 0) = 1
            says(0, 0, 2, 0) = 2
            says(0, 0, 3, 0) = 3
            says(0, 0, 0, 0) = 4         # 3 and 1, modulo 4
            volume(0, 27) = 21
            says(0, 0, 3, 0) = 1
            says(0, 0, 0, 0) = 2
            says(0, 0, 1, 0) = 3
            says(0, 0, 2, 0) = 4
            """);
    }

    private static void steps() {
        String way = "way(0, 0, 1, LENGTH) = 1\n";
        String told = "says(0, 0, 0, 1)";
        Edges.terms(STEPS, way.replace("LENGTH", "99") + byM(0, told, "99 99 99 99 99 99 99 99 99 99"));
        Edges.terms(STEPS, way.replace("LENGTH", "99") + byM(1, told, "99 108 118 128 138 148 158 168 178 188"));
        Edges.terms(STEPS, way.replace("LENGTH", "9") + byM(1, told, "9 9 10 11 12 13 14 15 16 17"));
        Edges.terms(STEPS, way.replace("LENGTH", "1") + byM(1, told, "1 1 1 1 1 1 1 1 1 1"));
        Edges.terms(STEPS, way.replace("LENGTH", "99") + byM(4, told, "100 109 119 129 139 149 159 169 179 189"));
        Edges.terms(STEPS, way.replace("LENGTH", "1") + byM(4, told, "2 2 2 2 2 2 2 2 2 2"));
        Edges.terms(STEPS, way.replace("LENGTH", "9") + byM(3, told, "NONE 9 9 9 9 9 9 9 9 9"));
        Edges.terms(STEPS, way.replace("LENGTH", "9") + byM(6, told, "9 9 9 9 9 9 9 9 9 9"));
        Edges.terms(STEPS, """
            way(0, 0, 1, 99) = 1
            way(1, 0, 2, 1) = 1
            volume(0, 29) = 0            # a TURN of 1
            volume(1, 57) = 0            # a TURN of 1
            says({0 1}, 0, 1, 1) = 99
            says({0 1}, 1, 1, 1) = 1
            volume(2, 69) = 0
            feed("l+v*100+m") = 9
            text(0) = 1
            says(2, 0, 0, 1) = 308
            says(2, 1, 0, 1) = 210
            says({0 1}, 0, 1, 1) = 99    # of TOLD ones alone
            """);
        Edges.terms("(Held within 1 .. 999 in the end.)", """
            way(0, 0, 1, 99) = 1
            volume(0, 60) = 0
            feed("0") = 1
            text(0) = 1
            says(0, 0, 0, 1) = 1
            feed("1") = 1
            text(0) = 1
            says(0, 0, 0, 1) = 1
            feed("2") = 1
            text(0) = 1
            says(0, 0, 0, 1) = 2
            feed("998") = 3
            text(0) = 1
            says(0, 0, 0, 1) = 998
            feed("999") = 3
            text(0) = 1
            says(0, 0, 0, 1) = 999
            feed("1000") = 4
            text(0) = 1
            says(0, 0, 0, 1) = 999
            feed("0-1") = 3
            text(0) = 1
            says(0, 0, 0, 1) = 1
            feed("2048*1024*1024") = 14  # the least int
            text(0) = 1
            says(0, 0, 0, 1) = 1
            feed("2048*1024*1024-1") = 16
            text(0) = 1
            says(0, 0, 0, 1) = 999
            wayIs(0, 0, 3) = 99
            wayIs(0, 0, 4) = 999
            """);
    }

    private static void hiding() {
        Edges.terms("HIDES (whether a WAY isn't told because of its LENGTH): VOLUME: no. "
            + "LIED: if LENGTH is above 10 times m.", """
            way(0, 0, 1, 1) = 1
            way(1, 0, 2, 10) = 1
            way(2, 0, 3, 11) = 1
            way(3, 0, 4, 90) = 1
            way(4, 0, 5, 91) = 1
            way(5, 0, 0, 99) = 1
            volume(0, 30) = 0            # above 0: all
            says(0, {0 1 2 3 4 5}, {0 1 2 3}, 1) = NONE
            volume(0, 31) = 30
            says(0, 0, 0, 1) = 1
            says(0, 1, 0, 1) = 10
            says(0, {2 3 4 5}, 0, 1) = NONE
            says(0, 2, 2, 1) = 10
            says(0, {3 4 5 0}, 2, 1) = NONE
            volume(0, 39) = 31
            says(0, 2, 0, 1) = 11
            says(0, 3, 0, 1) = 90
            says(0, {4 5}, 0, 1) = NONE
            volume(0, 0) = 39
            says(0, 5, 0, 1) = 99
            """);
        Edges.terms("(Others as the KIND above.)", """
            way(0, 0, 1, 99) = 1
            way(1, 0, 2, 1) = 1
            volume(0, 10) = 0
            volume(1, 40) = 0
            volume(2, 60) = 0
            volume(3, 20) = 0
            says({0 2 3}, 0, 0, 1) = 99
            says(1, 0, 0, 1) = 100
            volume(0, 19) = 10
            volume(1, 49) = 40
            volume(2, 69) = 60
            volume(3, 59) = 20           # a TURN of 3
            says({0 1 2}, 1, 0, 0) = 2   # none of these bends
            says(3, 1, 3, 0) = 2
            volume(3, 50) = 59           # a TURN of 2
            says(3, 0, 2, 1) = 99
            """);
    }

    private static void bending() {
        Edges.terms("BENDS (whether a WAY is said to lead to where it begins): VOLUME: no. "
            + "LIED: if LENGTH is m or less.", """
            way(0, 0, 1, 1) = 1
            way(1, 0, 2, 2) = 1
            way(2, 0, 3, 9) = 1
            way(3, 0, 4, 10) = 1
            volume(0, 31) = 0
            says(0, 0, 0, 0) = 0
            says(0, 1, 2, 0) = 1
            says(0, 1, 0, 0) = 2
            says(0, 2, 2, 0) = 1
            volume(0, 39) = 31
            says(0, 1, 0, 0) = 1
            says(0, 2, 0, 0) = 2
            says(0, 3, 2, 0) = 3
            says(0, 3, 0, 0) = 4
            says(0, 4, 2, 0) = 3
            says(0, 2, 0, 1) = 9         # STEPS as they are
            volume(0, 38) = 39
            says(0, 2, 0, 0) = 3
            volume(0, 30) = 38           # m 0 bends none, but hides all
            says(0, 0, 0, 0) = NONE
            volume(0, 9) = 30
            says(0, 0, 0, 0) = 1
            """);
    }

    private static void saying() {
        Edges.terms("A VOLUME SAYS of a SPOT x and a way d (0 .. 3): with a the PLACE that is x in it, and w such "
            + "that w and TURN together, modulo 4, are d: if THE ISLAND has a WAY w from a to a b, it doesn't LACK "
            + "that one, nor HIDE it: the SPOT of b (x, if it BENDS that one), and STEPS of its LENGTH; "
            + "else nothing.", """
            says(1, {0 5}, {0 3}, {0 1}) = NONE
            way(0, 3, 1, 12) = 1
            volume(1, 21) = 0
            swap(1, 0, 5) = 5
            says(1, 5, 0, 0) = 1         # way 3 and 1, modulo 4
            says(1, 5, 0, 1) = 12
            says(1, 5, {1 2 3}, 0) = NONE
            says(1, 0, {0 1 2 3}, 0) = NONE
            says(1, 1, 2, 0) = 5         # back: 1 and 1
            says(1, 1, {0 1 3}, 0) = NONE
            volume(1, 31) = 21
            says(1, 5, 3, 0) = NONE      # hidden
            volume(1, 32) = 31
            says(1, 5, 3, 0) = 1
            lacks(1, 1, 1) = 1
            says(1, 5, 3, {0 1}) = NONE
            says(1, 1, 1, {0 1}) = NONE
            lacks(1, 0, 3) = 0
            blast(0, 3) = 12
            way(0, 3, 1, 2) = 1
            says(1, 5, 3, 0) = 5         # x, since it bends
            says(1, 1, 1, 0) = 1
            says(1, 5, 3, 1) = 2
            """);
    }

    private static void volume() {
        Edges.promise(5, "A VOLUME becomes one of a KIND, with m (km: 10 times the KIND, and m): km as it was.", """
            way(0, 1, 1, 12) = 1
            swap(3, 0, 5) = 5
            lacks(3, 0, 1) = 1
            volume(3, 69) = 0
            volume(3, 69) = 69
            volume(3, 0) = 69
            volume(3, 9) = 0
            volume(3, 10) = 9
            volume(3, 59) = 10
            volumeIs(3, 0) = 5
            volumeIs(3, 1) = 9
            volumeIs(3, 4) = 5           # ORDER and LACKS stay
            volumeIs(3, 3) = 1
            volume(0, 0) = 0
            volumeIs({0 1 2}, {0 1 3}) = 0
            """);
        Edges.promise(5, "BEYOND.", """
            volume(0, 69) = 0
            volume(3, 69) = 0
            volume({-1 4 MIN MAX}, 5) = BEYOND
            volume(0, {-1 70 MIN MAX}) = BEYOND
            volume({-1 4}, {-1 70}) = BEYOND
            volume(0, 0) = 69
            volume(3, 0) = 69
            """);
    }

    private static void volumeIs() {
        Edges.promise(6, "Of a VOLUME: 0 KIND, 1 m, 2 TURN, 3 how many WAYS it LACKS (each way counts once, not the "
            + "one back; of a PLACE to itself one), 4 .. 9 the SPOT of PLACE 0 .. 5.", Islands.FULL + """
            volume(2, 59) = 0
            volumeIs(2, 0) = 5
            volumeIs(2, 1) = 9
            volumeIs(2, 2) = 3
            volumeIs(2, 3) = 0
            lacks(2, 0, 0) = 1
            volumeIs(2, 3) = 1
            lacks(2, 0, 1) = 1           # to itself
            volumeIs(2, 3) = 2
            lacks(2, {1 2 3 4 5}, {0 1}) = 1
            volumeIs(2, 3) = 12          # all that can be
            volumeIs({0 1 3}, 3) = 0
            lacks(2, 5, 3) = 0
            volumeIs(2, 3) = 11
            volumeIs(2, 4) = 0
            volumeIs(2, 9) = 5
            swap(2, 5, 0) = 0
            volumeIs(2, 4) = 5
            volumeIs(2, 9) = 0
            """);
        Edges.promise(6, "BEYOND.", """
            volumeIs({-1 4 MIN MAX}, 0) = BEYOND
            volumeIs(0, {-1 10 MIN MAX}) = BEYOND
            volumeIs({-1 4}, {-1 10}) = BEYOND
            volumeIs(3, 9) = 5
            volumeIs(0, 0) = 0
            """);
    }

    private static void as() {
        Edges.promise(7, "A VOLUME as one of a KIND: m.", """
            volume(0, 9) = 0
            volume(3, 60) = 0
            as(0, 0) = 9
            as(3, {0 6}) = 0
            """);
        Edges.promise(7, "BEYOND.", """
            volume(0, 5) = 0
            as({-1 4 MIN MAX}, 0) = BEYOND
            as(0, {-1 7 MIN MAX}) = BEYOND
            as({-1 4}, {-1 1 6 7}) = BEYOND
            as(0, 0) = 5
            as(0, 6) = KIND
            """);
        Edges.promise(7, "KIND: it is not of that KIND, nor of one under it.", """
            as({0 1 2 3}, {1 2 3 4 5 6}) = KIND
            volume(0, 17) = 0
            as(0, 4) = KIND              # COPIED is under it
            volume(1, 27) = 0
            as(1, 5) = KIND              # NIGHT is under it
            as(0, 1) = 7
            as(1, 2) = 7
            volume(0, 47) = 17
            volume(1, 57) = 27
            as(0, {0 1 4}) = 7
            as(1, {0 2 5}) = 7
            as(0, {2 3 5 6}) = KIND
            as(1, {1 3 4 6}) = KIND
            told(5) = 34
            """);
    }

    private static void swap() {
        Edges.promise(8, "Two PLACES (or one twice) change their SPOTS in a VOLUME: the SPOT of the first then.", """
            swap(3, 0, 0) = 0
            swap(3, 5, 5) = 5
            volumeIs(3, 4) = 0
            swap(3, 0, 5) = 5
            swap(3, 5, 1) = 1
            swap(3, 0, 0) = 5
            volumeIs(3, 4) = 5
            volumeIs(3, 5) = 0
            volumeIs(3, 6) = 2
            volumeIs(3, 9) = 1
            volumeIs({0 1 2}, 4) = 0
            swap(3, 1, 5) = 1
            swap(3, 5, 0) = 5
            volumeIs(3, 4) = 0
            """);
        Edges.promise(8, "BEYOND.", """
            swap(0, 0, 5) = 5
            swap({-1 4 MIN MAX}, 0, 1) = BEYOND
            swap(0, {-1 6 MIN MAX}, 1) = BEYOND
            swap(0, 1, {-1 6 MIN MAX}) = BEYOND
            swap({-1 4}, {-1 6}, {-1 6}) = BEYOND
            swap(3, 5, 0) = 0
            """);
    }

    private static void lacks() {
        Edges.promise(9, "A VOLUME LACKS a WAY (and the one back), or, if it does, no more: 1 if it does then, "
            + "else 0.", """
            way(5, 3, 0, 7) = 1
            way(0, 0, 0, 8) = 1
            lacks(3, 5, 3) = 1
            lacks(3, 0, 0) = 1
            says(3, 0, {0 1 2 3}, 0) = NONE
            says(3, 5, 3, 0) = NONE
            says(2, 5, 3, 0) = 0
            lacks(3, 0, 1) = 0           # the one back
            lacks(3, 0, 2) = 0           # the other way to itself
            says(3, 0, {0 2}, 0) = 0
            says(3, 0, 1, 0) = 5
            says(3, 5, 3, 0) = 0
            lacks(0, 0, 1) = 1
            lacks(0, 5, 3) = 0
            """);
        Edges.promise(9, "BEYOND.", """
            way(0, 0, 5, 7) = 1
            way(0, 3, 5, 7) = 1
            lacks({-1 4 MIN MAX}, 0, 0) = BEYOND
            lacks(0, {-1 6 MIN MAX}, 0) = BEYOND
            lacks(0, 0, {-1 4 MIN MAX}) = BEYOND
            lacks({-1 4}, 1, 1) = BEYOND # ahead of NONE
            lacks({-1 4}, {-1 6}, {-1 4}) = BEYOND
            lacks({0 3}, 0, {0 3}) = 1
            lacks({0 3}, 5, {1 2}) = 0
            """);
        Edges.promise(9, "NONE: there is no such WAY.", """
            lacks({0 3}, {0 5}, {0 3}) = NONE
            way(0, 0, 5, 7) = 1
            lacks(1, 0, {1 2 3}) = NONE
            lacks(1, 5, {0 1 3}) = NONE
            lacks(1, 5, 2) = 1
            blast(0, 0) = 7
            lacks(1, 5, 2) = NONE
            volumeIs(1, 3) = 0
            """);
    }

    private static void says() {
        Edges.promise(10, "What a VOLUME SAYS of a SPOT and a way: what 0 the SPOT there, 1 STEPS.", """
            way(5, 3, 0, 99) = 1
            volume(3, 49) = 0
            says(0, 5, 3, 0) = 0
            says(3, 5, 3, 0) = 0
            says(3, 0, 1, 0) = 5
            says(3, 0, 1, 1) = 189
            swap(3, 0, 3) = 3
            says(3, 5, 3, 0) = 3
            says(3, 3, 1, 0) = 5
            """);
        Edges.promise(10, "BEYOND.", """
            way(0, 0, 0, 7) = 1
            way(5, 3, 5, 8) = 1
            says(0, 0, 0, 0) = 0
            says(3, 5, 3, 1) = 8
            says({-1 4 MIN MAX}, 0, 0, 0) = BEYOND
            says(0, {-1 6 MIN MAX}, 0, 0) = BEYOND
            says(0, 0, {-1 4 MIN MAX}, 0) = BEYOND
            says(0, 0, 0, {-1 2 MIN MAX}) = BEYOND
            says(0, 1, 0, {-1 2}) = BEYOND     # ahead of NONE
            says({-1 4}, {-1 6}, {-1 4}, {-1 2}) = BEYOND
            """);
        Edges.promise(10, "NONE: nothing.", """
            says({0 3}, {0 5}, {0 3}, {0 1}) = NONE
            way(0, 0, 5, 7) = 1
            says(0, 0, {1 2 3}, {0 1}) = NONE
            says(0, 5, {0 1 3}, {0 1}) = NONE
            volume(0, 30) = 0            # HIDES it
            lacks(1, 5, 2) = 1           # LACKS it
            volume(2, 21) = 0            # names it 1
            says({0 1 2}, 0, 0, {0 1}) = NONE
            says({0 1 2}, 5, 2, {0 1}) = NONE
            says(2, 0, 1, 0) = 5
            says(3, 0, 0, 0) = 5
            """);
    }
}
