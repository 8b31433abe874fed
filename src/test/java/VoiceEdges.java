/** VOICES and THE TRACE, and promises 24 and 25. */
final class VoiceEdges {
    private static final String VOICES = "VOICES of a VOLUME, with a number x (ints that wrap); k is the number, "
        + "m as told: 0 reads, 1 paces, 2 sells, 3 parts.";
    private static final String VOLUME = "BODIES: VOLUME: 10 reads: x + k. 11 paces: reads(x) * 2. "
        + "12 sells: paces(x) - m. 13 parts: x by (m - k), cut (PARTED if that is 0; that is all that voice() answers "
        + "then).";
    private static final String OLD = "OLD: 20 reads: super.reads(x) - 4. 21 parts: super.parts(x) + paces(1).";
    private static final String TRACE = "THE TRACE: the numbers of BODIES of the latest voice(), as they began "
        + "(what stands left is worked out first), the first 30.";

    private VoiceEdges() {
    }

    static void run() {
        voices();
        volumes();
        olds();
        others();
        supers();
        trace();
        voice();
        body();
    }

    private static void voices() {
        Edges.terms(VOICES, """
            volume(3, 5) = 0
            voice(3, 0, 0) = 3
            voice(3, 1, 0) = 6
            voice(3, 2, 0) = 1
            voice(3, 3, 0) = 0
            voice(0, {0 1 2}, 0) = 0
            voice(3, 0, MAX) = -2147483646
            voice(3, 0, MIN) = -2147483645
            voice(3, 1, MAX) = 4
            voice(3, 1, MIN) = 6
            voice(0, 0, MAX) = 2147483647
            voice(0, 1, 1073741823) = 2147483646
            voice(0, 1, 1073741824) = -2147483648
            voice(3, 2, 1073741821) = 2147483643
            volume(0, 9) = 0
            voice(0, 2, 1073741824) = 2147483639
            """);
        Edges.terms(VOICES, """
            volume(0, 10) = 0
            voice(0, 0, MIN) = 2147483644
            volume(0, 11) = 10
            voice(0, 3, MIN) = 2147483642      # less 6
            volume(0, 20) = 11
            voice(0, 1, 1073741824) = -2147483648
            volume(0, 40) = 20
            voice(0, 0, MAX) = 2147483633
            volume(1, 50) = 0
            voice(1, 1, MAX) = -2        # the least int and 1, twice, from 0
            volume(2, 69) = 0
            voice(2, 0, MAX) = 9
            voice(2, 1, MAX) = 27
            """);
    }

    private static void volumes() {
        Edges.terms(VOLUME, """
            volume(0, 4) = 0
            volume(2, 9) = 0
            voice(0, 0, 7) = 7
            voice(2, 0, 7) = 9
            voice(0, 1, 7) = 14
            voice(2, 1, 7) = 18
            voice(0, 2, 7) = 10
            voice(2, 2, 7) = 9
            voice(0, 3, 7) = 1
            voice(0, 3, -7) = -1
            voice(0, 3, {3 -3}) = 0
            voice(2, 3, 7) = 1
            voice(3, 3, 7) = -2          # by -3
            voice(3, 3, 2) = 0
            """);
        Edges.terms(VOLUME, """
            voice(0, 3, {0 1 -1 MIN MAX}) = PARTED
            voice(1, 3, 7) = -7          # by -1
            voice(1, 3, MIN) = -2147483648
            voice(1, 3, MAX) = -2147483647
            volume(1, 1) = 0
            voice(1, 3, 7) = PARTED
            volume(1, 2) = 1
            voice(1, 3, 7) = 7
            voice(1, 3, MIN) = -2147483648
            volume(2, 1) = 0
            voice(2, 3, 7) = -7
            volume(2, 2) = 1
            voice(2, 3, 7) = PARTED
            volume(3, 3) = 0
            voice(3, 3, 7) = PARTED
            volume(3, 4) = 3
            voice(3, 3, 7) = 7
            told(6) = 8
            """);
    }

    private static void olds() {
        Edges.terms(OLD, """
            volume(0, 12) = 0
            voice(0, 0, 4) = 0
            voice(0, 0, 3) = -1
            voice(0, 1, 3) = -2
            voice(0, 2, 3) = -4
            voice(0, 3, 9) = -2          # 4, and twice 1 less 4
            voice(0, 3, -9) = -10
            volume(0, 10) = 12
            voice(0, 3, 9) = PARTED      # and no more
            volume(3, 13) = 0
            voice(3, 3, 0) = PARTED
            volume(3, 12) = 13
            voice(3, 3, 0) = 0           # twice 1 and 3 less 4
            volume(3, 43) = 12
            voice(3, 3, 0) = PARTED      # COPIED has no parts of its own
            """);
    }

    private static void others() {
        Edges.terms("TURNED: 30 paces: 0 - super.paces(x).", """
            volume(2, 29) = 0
            voice(2, 0, 7) = 9
            voice(2, 1, 7) = -18
            voice(2, 1, -2) = 0
            voice(2, 2, 7) = -27
            voice(2, 3, 7) = 1
            volume(2, 22) = 29
            voice(2, 3, 7) = PARTED
            """);
        Edges.terms("LIED: 40 sells: super.sells(x / 2).", """
            volume(2, 39) = 0
            voice(2, 2, 7) = 1           # twice 3 and 2, less 9
            voice(2, 2, 6) = 1
            voice(2, 2, -7) = -11        # -3 and 2, twice, less 9
            voice(2, 2, {1 0 -1}) = -5
            voice(2, 2, MIN) = 2147483643      # the least int and 4, less 9
            voice(2, 0, 7) = 9
            voice(2, 1, 7) = 18
            voice(2, 3, 7) = 1
            """);
        Edges.terms("COPIED: 50 reads: super.reads(x) * 3. 51 sells: super.sells(x) ^ k.", """
            volume(3, 45) = 0
            voice(3, 0, 7) = 18          # 7 and 3 less 4, three times
            voice(3, 0, 1) = 0
            voice(3, 1, 7) = 36
            voice(3, 2, 7) = 28          # 31 ^ 3
            voice(3, 2, 1) = -8          # -5 ^ 3
            voice(3, 3, 8) = 4           # 8 by 2, and twice 0
            volume(0, 45) = 0
            voice(0, 2, 7) = 13          # 18 ^ 0, less 5 ahead
            """);
        Edges.terms("NIGHT: 60 paces: super.paces(x + 1).", """
            volume(1, 54) = 0
            voice(1, 1, 7) = -18
            voice(1, 1, -2) = 0
            voice(1, 2, 7) = -22
            voice(1, 0, 7) = 8
            voice(1, 3, 7) = 2
            volume(1, 51) = 54
            voice(1, 3, 7) = PARTED
            """);
        Edges.terms("TOLD: 70 reads: 9. 71 paces: super.paces(x) + m.", """
            volume(2, 60) = 0
            voice(2, 0, {0 MIN MAX}) = 9
            voice(2, 1, {0 MIN MAX}) = 18
            voice(2, 2, 5) = 18
            volume(2, 69) = 60
            voice(2, 0, 5) = 9
            voice(2, 1, 5) = 27
            voice(2, 2, 5) = 18          # less m again
            voice(2, 3, 15) = 2
            volume(2, 62) = 69
            voice(2, 3, 15) = PARTED
            """);
    }

    private static void supers() {
        Edges.terms("reads(..) is the BODY of its KIND, or of the next KIND above that has one; "
            + "super.reads(..) that from the KIND above the BODY's on.", """
            volume(2, 59) = 0
            voice(2, 2, 7) = -29         # sells of VOLUME, paces of NIGHT, TURNED and VOLUME, reads of VOLUME
            body(0) = 12
            body(1) = 60
            body(2) = 30
            body(3) = 11
            body(4) = 10
            body(5) = NONE
            volume(2, 49) = 59
            voice(2, 3, 7) = -5          # 1, and twice three times 1 and 2 less 4
            body(0) = 21
            body(1) = 13
            body(2) = 11
            body(3) = 50
            body(4) = 20
            body(5) = 10
            body(6) = NONE
            volume(2, 69) = 49
            voice(2, 2, 7) = 18
            body(0) = 12
            body(1) = 71
            body(2) = 11
            body(3) = 70
            body(4) = NONE
            volume(2, 39) = 69
            voice(2, 2, 7) = 1
            body(0) = 40
            body(1) = 12
            body(2) = 11
            body(3) = 10
            body(4) = NONE
            """);
    }

    private static void trace() {
        Edges.terms(TRACE, """
            count(4) = 0
            voice(1, 2, 0) = 2
            count(4) = 3
            voice(1, 0, 0) = 1
            count(4) = 1
            body(0) = 10                 # nothing is left of the one ahead
            body({1 2 29 30}) = NONE
            voice(1, 4, 0) = BEYOND      # that began none
            count(4) = 1
            body(0) = 10
            voice(0, 3, 0) = PARTED
            count(4) = 1
            body(0) = 13
            volume(3, 15) = 0
            voice(3, 3, 6) = 3           # what stands left is worked out first
            count(4) = 5
            body(0) = 21
            body(1) = 13
            body(2) = 11
            body(3) = 20
            body(4) = 10
            body(5) = NONE
            volume(3, 13) = 15
            voice(3, 3, 6) = PARTED
            body(0) = 21
            body(1) = 13
            """);
        Edges.terms(TRACE, """
            volume(3, 49) = 0
            voice(3, 2, 0) = -14         # the longest there is
            count(4) = 6
            body(0) = 51
            body(1) = 12
            body(2) = 11
            body(3) = 50
            body(4) = 20
            body(5) = 10
            body({6 29 30}) = NONE
            """);
    }

    private static void voice() {
        Edges.promise(24, "A VOICE of a VOLUME.", """
            volume(3, 9) = 0
            voice(0, 0, 5) = 5
            voice(3, 0, 5) = 8
            voice(0, 1, 5) = 10
            voice(3, 3, -13) = -2
            swap(3, 0, 5) = 5
            voice(3, 1, 5) = 16
            """);
        Edges.promise(24, "BEYOND.", """
            voice(0, 1, 0) = 0
            voice({-1 4 MIN MAX}, 0, 0) = BEYOND
            voice(0, {-1 4 MIN MAX}, 0) = BEYOND
            voice({-1 4}, {-1 3 4}, {MIN MAX}) = BEYOND
            voice(0, 3, 0) = PARTED
            voice({-1 4}, 3, 0) = BEYOND
            count(4) = 1
            body(0) = 13
            voice(3, 3, -9) = 3
            """);
        Edges.promise(24, "PARTED.", """
            voice(0, 3, {0 7 MIN MAX}) = PARTED
            told(6) = 4
            volume(0, 1) = 0
            voice(0, 3, -1000000006) = -1000000006
            told(6) = 4                  # that was no ERROR
            """);
    }

    private static void body() {
        Edges.promise(25, "THE TRACE's i-th.", """
            voice(0, 2, 0) = 0
            body(0) = 12
            body(1) = 11
            body(2) = 10
            """);
        Edges.promise(25, "NONE: there is none such.", """
            body({0 -1 1 MIN MAX}) = NONE
            voice(0, 2, 0) = 0
            body({-1 3 29 30 MIN MAX}) = NONE
            body(2) = 10
            voice(0, 0, 0) = 0
            body({1 2}) = NONE
            told(2) = 13
            """);
    }
}
