/** The boundary cases of the promises 36 to 39: what is told. */
final class ToldCases {
    private ToldCases() {
    }

    static void all(Sentences doc) {
        finding(doc);
        findings(doc);
        count(doc);
        digest(doc);
    }

    private static void finding(Sentences doc) {
        doc.ofPromise(36);
        String quote = "The latest FINDING; 0 before any.";
        doc.says(quote, "0, also behind refusals, which are none", """
                finding() = 0; kind(0) = UNKNOWN; finding() = 0; row(9, 0) = OUTSIDE; finding() = 0; stream(); end(0); end(0) = STATE; finding() = 0
                6 x house()
                house() = FULL; find(0, 0) = NONE; finding() = 0
                """);
        doc.says(quote, "the latest, not the greatest, and it stays", """
                stream(); read(0) = ENDS; finding() = 6; row(0, -1) = SIZE; finding() = 4; at(0, 0) = INDEX; finding() = 2; row(0, 0) = 0
                kind(1) = UNKNOWN
                finding() = 2; finding() = 2; findings(2) = 1; read(0) = ENDS; finding() = 6
                """);
        doc.says(quote, "pieces() answers none", "stream(); pieces(0) = 0; add(0, 1); pieces(0) = 0; bytes(0, 1, 1, 0, 0, 1, 1); pieces(0) = 0; finding() = 0");
    }

    private static void findings(Sentences doc) {
        doc.ofPromise(37);
        String quote = "How often a FINDING (1 .. 9) was answered.";
        doc.says(quote, "each by its own count", """
                9 x findings(@+1) = 0
                stream(); row(4, 1); row(5, 1); row(4, 0); lose(2); delta(0, 0)
                lose(2) = NULL; length(2) = NULL; get(0, 1) = INDEX; copy(0, 0, 1, 0, 1) = CAST; row(0, -1) = SIZE; rest(0, 0, 0) = ZERO
                rest(1, 0, 0) = ZERO
                read(0) = ENDS; add(0, 1); read(0) = SHORT; read(0) = SHORT; read(0) = SHORT; apply(0, 0) = MISFIT
                bytes(0, 0, 0, 0, 0, 0, 0); read(0) = HARMED
                findings(1) = 2; findings(2) = 1; findings(3) = 1; findings(4) = 1; findings(5) = 2; findings(6) = 1; findings(7) = 3
                findings(8) = 1; findings(9) = 1
                """);
        doc.says(quote, "as often as there are calls", "500 x row(0, -1) = SIZE\nfindings(4) = 500; findings(1) = 0; finding() = 4");
        doc.says("OUTSIDE.", "1 and 9, not 0 and 10", """
                findings(1) = 0; findings(9) = 0; findings(0) = OUTSIDE; findings(10) = OUTSIDE; findings(-1) = OUTSIDE
                findings(MIN) = OUTSIDE; findings(MAX) = OUTSIDE
                findings(-11) = OUTSIDE; finding() = 0
                """);
    }

    private static void count(Sentences doc) {
        doc.ofPromise(38);
        String quote = "How many: 0 ROWS, 1 STREAMS, 2 BODIES at hand, 3 BODIES ever, 4 HOUSES, 5 DELTAS (made).";
        doc.says(quote, "none, and each by its own count", """
                6 x count(@) = 0
                6 x row(0, 0)
                5 x stream()
                3 x house()
                7 x delta(0, 0)
                end(0); add(1, 1); end(1); keep(0, 0, 0); keep(0, 1, 1); drop(0, 0)
                count(0) = 6; count(1) = 5; count(2) = 1; count(3) = 2; count(4) = 3; count(5) = 7
                """);
        doc.says(quote, "LOST ones, ENDED ones, read, taken and applied ones", """
                row(0, 0); lose(0); count(0) = 1; stream(); write(0, 0, 0) = NULL; piece(0, 160, 0, 0); read(0) = 1; count(0) = 2; end(0)
                house(); keep(0, 0, 0)
                take(0, 0) = 1; count(1) = 2; delta(0, 0); apply(0, 0) = 2; count(1) = 3; drop(0, 0); count(2) = 0; count(3) = 1
                """);
        doc.says(quote, "all that there may be", """
                60 x row(0, 0)
                24 x stream()
                6 x house()
                16 x delta(0, 0)
                count(0) = 60; count(1) = 24; count(4) = 6; count(5) = 16
                row(0, 0) = FULL; stream() = FULL; house() = FULL; delta(0, 0) = FULL; count(0) = 60; count(1) = 24; count(4) = 6; count(5) = 16
                """);
        doc.says(quote, "30 BODIES at hand, 31 ever", HousesCases.THIRTY + "harm(0, 0, 128); drop(0, 0); keep(0, 0, 0) = 30; count(2) = 30; count(3) = 31");
        doc.says("OUTSIDE.", "0 and 5, not -1 and 6", "count(0) = 0; count(5) = 0; count(-1) = OUTSIDE; count(6) = OUTSIDE; count(MIN) = OUTSIDE; count(MAX) = OUTSIDE");
    }

    private static String digestOf(long... numbers) {
        long h = 19;
        for (long number : numbers) h = 31 * h + number;
        return "digest() = " + h + "\n";
    }

    private static void digest(Sentences doc) {
        doc.ofPromise(39);
        String quote = "h is 19, then for each of these numbers, in order, 31 times h, and it (as longs, wrapping): how many ROWS;";
        doc.says(quote, "a new object: three zeros", digestOf(0, 0, 0));
        doc.says(quote, "it wraps", "row(5, 4); numbers(0, LMIN, LMAX, LMIN, -1)\n" + digestOf(1, 5, 4, Long.MIN_VALUE, Long.MAX_VALUE, Long.MIN_VALUE, -1, 0, 0));
        quote = "of each its KIND, -1 if it is LOST, else how many NUMBERS, their WHOLES;";
        doc.says(quote, "none, one, a LOST one, GAPS and -0.0", "row(0, 0); row(2, 1); put(1, 0, -1); row(7, 2); numbers(2, -1, -0.0d); row(6, 3); lose(3)\n"
                + digestOf(4, 0, 0, 2, 1, 65535, 7, 2, 0x7FF8000000000000L, Long.MIN_VALUE, 6, -1, 0, 0));
        doc.says(quote, "a LOST one of no NUMBERS is another than an empty one", "row(3, 0)\n" + digestOf(1, 3, 0, 0, 0) + "lose(0) = 0\n" + digestOf(1, 3, -1, 0, 0));
        quote = "how many STREAMS; of each how many bytes, THE SUM, its PLACE, 1 if it is ENDED, else 0;";
        doc.says(quote, "an empty one, one at its end, an ENDED one", "stream(); stream(); bytes(1, 68, 6, 1); seek(1, 3); stream(); add(2, 255); end(2)\n"
                + digestOf(0, 3, 0, 0, 0, 0, 3, 65535, 3, 0, 1, 255, 0, 1, 0));
        doc.says(quote, "harm() and seek() are seen", "stream(); bytes(0, 0, 1)\n" + digestOf(0, 1, 2, 1, 0, 0, 0) + "harm(0, 0, 1); seek(0, 1)\n" + digestOf(0, 1, 2, 32, 1, 0, 0));
        quote = "of each HOUSE how many ENTRIES, of each, the least PATH first, PATH and the number of the BODY; how many DELTAS.";
        doc.says(quote, "an empty HOUSE, the least PATH first, 16 DELTAS", """
                stream(); end(0); stream(); add(1, 7); end(1); house(); house(); keep(1, LMAX, 0) = 0; keep(1, 0, 1) = 1; keep(1, 5, 0) = 0
                16 x delta(0, 1)
                """ + digestOf(0, 2, 0, 0, 0, 1, 1, 7, 0, 1, 0, 3, 0, 1, 5, 0, Long.MAX_VALUE, 0, 16));
        doc.says(quote, "an ENTRY that went, a BODY that came anew", "stream(); end(0); house(); keep(0, 3, 0) = 0\n" + digestOf(0, 1, 0, 0, 0, 1, 1, 3, 0, 0)
                + "drop(0, 3) = 0\n" + digestOf(0, 1, 0, 0, 0, 1, 0, 0) + "keep(0, 3, 0) = 1\n" + digestOf(0, 1, 0, 0, 0, 1, 1, 3, 1, 0));
        doc.says(quote, "SEEN, FINDINGS and BODIES ever are not in it", "house(); stream(); end(0); keep(0, 0, 0); drop(0, 0); list(0, 0) = INDEX; seen() = 0\n"
                + digestOf(0, 1, 0, 0, 0, 1, 0, 0));
    }
}
