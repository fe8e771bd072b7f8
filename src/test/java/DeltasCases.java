/** The boundary cases of the promises 33 to 35: DELTAS. */
final class DeltasCases {
    /** DELTA 0 is of STREAM 0 to STREAM 1: ADD 1, COPY 4, ADD 2. */
    private static final String ONE = """
            stream(); bytes(0, 5, 1, 2, 3, 4); stream(); bytes(1, 9, 1, 2, 3, 4, 8, 7); delta(0, 1) = 0
            """;

    private DeltasCases() {
    }

    static void all(Sentences doc) {
        delta(doc);
        act(doc);
        apply(doc);
        applyRefuses(doc);
    }

    private static void delta(Sentences doc) {
        doc.ofPromise(33);
        doc.says("A DELTA from a to b: its number.", "both ways, to itself, of OPEN and ENDED ones", """
                stream(); bytes(0, 1, 2, 3, 4, 5); stream(); bytes(1, 1, 2, 3, 4); end(1); delta(0, 1) = 0; delta(1, 0) = 1; delta(0, 0) = 2
                act(0, -1, 1) = 4; act(0, -1, 2) = 0; act(1, -1, 1) = 4; act(1, -1, 2) = 1; act(2, -1, 1) = 5; about(0, 2) = 0; about(1, 2) = 1
                """);
        doc.says("A DELTA from a to b: its number.", "40 ACTS of 100 bytes, 41 of 400", """
                stream(); bytes(0, 1, 2, 3, 4); stream(); 20 x bytes(1, 9, 1, 2, 3, 4)
                delta(0, 1) = 0; act(0, -1, 0) = 40; apply(0, 0) = 2; delta(0, 2) = 1; 300 x add(1, 1)
                delta(0, 1) = 2; act(2, -1, 0) = 41; act(2, -1, 2) = 320; act(2, -1, 1) = 80; act(2, 40, 2) = 300; act(2, 41, 0) = INDEX
                """);
        doc.says("UNKNOWN: a, b; FULL.", "the 16th, the 17th; the order", """
                stream(); stream(); 16 x delta(0, 1) = @
                delta(0, 1) = FULL; delta(1, 0) = FULL; delta(2, 0) = UNKNOWN; delta(0, 2) = UNKNOWN; delta(-1, 0) = UNKNOWN; delta(0, -1) = UNKNOWN
                """);
        doc.says("UNKNOWN: a, b; FULL.", "no STREAM", """
                delta(0, 0) = UNKNOWN; stream(); delta(0, 1) = UNKNOWN; delta(1, 0) = UNKNOWN; delta(MAX, 0) = UNKNOWN
                delta(0, MIN) = UNKNOWN; delta(0, 0) = 0
                """);
    }

    private static void act(Sentences doc) {
        doc.ofPromise(34);
        String quote = "Of ACT i of a DELTA: what = 0: 0 COPY, 1 ADD; 1 the place (of ADD -1); 2 the length;";
        doc.says(quote, "the first, the middle, the last one", ONE + """
                act(0, 0, 0) = 1; act(0, 0, 1) = -1; act(0, 0, 2) = 1; act(0, 1, 0) = 0; act(0, 1, 1) = 1; act(0, 1, 2) = 4
                act(0, 2, 0) = 1; act(0, 2, 1) = -1; act(0, 2, 2) = 2
                """);
        doc.says(quote, "place 0, and a length of 400", """
                row(0, 0); stream(); 57 x write(0, 0, 0)
                add(0, 1) = 400; delta(0, 0); act(0, 0, 0) = 0; act(0, 0, 1) = 0; act(0, 0, 2) = 400; stream(); delta(1, 0) = 1
                act(1, 0, 0) = 1; act(1, 0, 2) = 400
                """);
        quote = "i = -1: 0 how many ACTS there are, 1 how many bytes are COPIED, 2 how many ADDED.";
        doc.says(quote, "3, 4, 3; and of none", ONE + """
                act(0, -1, 0) = 3; act(0, -1, 1) = 4; act(0, -1, 2) = 3; stream(); delta(0, 2) = 1; act(1, -1, 0) = 0; act(1, -1, 1) = 0
                act(1, -1, 2) = 0
                """);
        doc.says(quote, "COPIES alone, ADDS alone", """
                stream(); bytes(0, 1, 2, 3, 4); stream(); bytes(1, 1, 2, 3, 4, 1, 2, 3, 4); stream(); bytes(2, 9, 9, 9, 9, 9)
                delta(0, 1); act(0, -1, 0) = 2; act(0, -1, 1) = 8; act(0, -1, 2) = 0; delta(0, 2); act(1, -1, 0) = 1; act(1, -1, 1) = 0
                act(1, -1, 2) = 5
                """);
        quote = "UNKNOWN; OUTSIDE: what; INDEX.";
        doc.says(quote, "i -1 and the last one, not -2 and one more", ONE + """
                act(0, -2, 0) = INDEX; act(0, -1, 0) = 3; act(0, 2, 0) = 1; act(0, 3, 0) = INDEX; act(0, MIN, 0) = INDEX; act(0, MAX, 2) = INDEX
                stream(); delta(0, 2); act(1, 0, 0) = INDEX; act(1, -1, 0) = 0; act(1, -2, 1) = INDEX
                """);
        doc.says(quote, "what 0 and 2, not -1 and 3; the order", ONE + """
                act(0, 0, -1) = OUTSIDE; act(0, 0, 3) = OUTSIDE; act(0, -1, -1) = OUTSIDE; act(0, -1, 3) = OUTSIDE; act(0, 0, MIN) = OUTSIDE
                act(0, 0, MAX) = OUTSIDE
                act(0, 3, 3) = OUTSIDE; act(0, -2, -1) = OUTSIDE; act(1, 0, 0) = UNKNOWN; act(1, 0, 3) = UNKNOWN; act(-1, 9, 0) = UNKNOWN
                act(-1, -1, 3) = UNKNOWN
                act(MAX, 0, 0) = UNKNOWN; act(MIN, 0, 0) = UNKNOWN
                """);
    }

    private static void apply(Sentences doc) {
        doc.ofPromise(35);
        String quote = "What a DELTA makes of a STREAM, a new OPEN STREAM: its number.";
        doc.says(quote, "its bytes; PLACE is 0; those it was made of stay", ONE + """
                seek(0, 3); end(0); apply(0, 0) = 2; has(2, 9, 1, 2, 3, 4, 8, 7); about(2, 1) = 0; about(2, 2) = 0; add(2, 1) = 8
                has(0, 5, 1, 2, 3, 4); about(0, 1) = 3
                about(1, 0) = 7
                """);
        doc.says(quote, "nothing of something, something of nothing, nothing of nothing", """
                stream(); stream(); bytes(1, 1, 2, 3, 4, 5); delta(1, 0) = 0; delta(0, 1) = 1; delta(0, 0) = 2
                apply(0, 1) = 2; about(2, 0) = 0; apply(1, 0) = 3; has(3, 1, 2, 3, 4, 5); apply(2, 0) = 4; about(4, 0) = 0; apply(2, 2) = 5
                apply(1, 2) = 6; about(6, 0) = 5
                """);
        doc.says(quote, "400 bytes of 4", """
                stream(); bytes(0, 1, 2, 3, 4); stream(); 400 x add(1, 1)
                delta(0, 1) = 0; apply(0, 0) = 2; about(2, 0) = 400; about(2, 3) = SUM; add(2, 1) = FULL
                """.replace("SUM", "" + sumOf400()));
        doc.says(quote, "of another STREAM that has the same length and SUM: COPIES are of its bytes", """
                stream(); bytes(0, 1, 31, 5, 6, 7); stream(); bytes(1, 2, 0, 5, 6, 7); about(0, 3) = 44810; about(1, 3) = 44810
                stream(); bytes(2, 9, 1, 31, 5, 6); delta(0, 2) = 0; apply(0, 0) = 3; has(3, 9, 1, 31, 5, 6); apply(0, 1) = 4; has(4, 9, 2, 0, 5, 6)
                """.replace("44810", "" + Check.sum(1, 31, 5, 6, 7)));
    }

    private static int sumOf400() {
        int[] bytes = new int[400];
        java.util.Arrays.fill(bytes, 1);
        return Check.sum(bytes);
    }

    private static void applyRefuses(Sentences doc) {
        String quote = "UNKNOWN: d, s; MISFIT: it has another length, or THE SUM of its bytes is another one, than the one that the DELTA goes from had;"
                + " FULL.";
        doc.says(quote, "another length, the same SUM", """
                stream(); bytes(0, 0, 1, 2, 3, 4); stream(); bytes(1, 1, 2, 3, 4); stream(); bytes(2, 0, 0, 1, 2, 3, 4); delta(0, 1) = 0
                about(0, 3) = 31810; about(1, 3) = 31810; about(2, 3) = 31810; apply(0, 1) = MISFIT; apply(0, 2) = MISFIT; apply(0, 0) = 3
                findings(9) = 2
                """.replace("31810", "" + Check.sum(1, 2, 3, 4)));
        doc.says(quote, "the same length, another SUM, by the first and by the last byte; SUMS are by 65536", ONE + """
                harm(0, 0, 1); apply(0, 0) = MISFIT; harm(0, 0, 1); harm(0, 4, 128); apply(0, 0) = MISFIT; harm(0, 4, 128); apply(0, 0) = 2
                add(0, 0); apply(0, 0) = MISFIT; apply(0, 1) = MISFIT
                """);
        doc.says(quote, "no bytes are another length than one 0", """
                stream(); stream(); add(1, 0); delta(0, 1) = 0; apply(0, 1) = MISFIT; apply(0, 0) = 2; delta(1, 0) = 1; apply(1, 0) = MISFIT
                apply(1, 1) = 3
                """);
        doc.says(quote, "as it had then, not as it has now", """
                stream(); add(0, 1); stream(); delta(0, 1) = 0; add(0, 2); apply(0, 0) = MISFIT; add(1, 1); apply(0, 1) = 2
                """);
        doc.says(quote, "the 24th, the 25th; MISFIT ahead of FULL", ONE + """
                22 x apply(0, 0) = @+2
                apply(0, 0) = FULL; apply(0, 1) = MISFIT; apply(1, 0) = UNKNOWN; apply(0, 24) = UNKNOWN; count(1) = 24
                """);
        doc.says(quote, "no DELTA, no STREAM, ahead of MISFIT", ONE + """
                apply(1, 0) = UNKNOWN; apply(-1, 0) = UNKNOWN; apply(0, 2) = UNKNOWN; apply(0, -1) = UNKNOWN; apply(1, 1) = UNKNOWN
                apply(MAX, 0) = UNKNOWN; apply(0, MIN) = UNKNOWN
                """);
    }
}
