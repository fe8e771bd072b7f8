/** The boundary cases of the promises 24 and 25: read and pieces. */
final class PiecesCases {
    private static final String MADE = "HARMED: the first three bytes are not as told (24 NUMBERS at most); THE SUM is another one;"
            + " the CODER cannot have made these bytes of so many NUMBERS of the KIND;";

    private PiecesCases() {
    }

    static void all(Sentences doc) {
        doc.ofPromise(24);
        read(doc);
        ends(doc);
        head(doc);
        sum(doc);
        plainMade(doc);
        runsMade(doc);
        wideMade(doc);
        kinds(doc);
        full(doc);
        pieces(doc);
    }

    private static void read(Sentences doc) {
        String quote = "The PIECE at the PLACE becomes a new ROW: its number; the PLACE goes behind the PIECE.";
        doc.says(quote, "0 and 24 NUMBERS, one behind the other", """
                row(6, 0); row(7, 24); put(1, 0, -1); put(1, 23, -0.0d); stream(); write(0, 0, 0) = 7; write(0, 1, 3)
                read(0) = 2; about(0, 1) = 7; kind(2) = 6; length(2) = 0; read(0) = 3; kind(3) = 7; length(3) = 24
                get(3, 0) -> GAPd; get(3, 1) -> 0; get(3, 23) -> -0.0d; read(0) = ENDS
                """);
        doc.says(quote, "of an ENDED one, of the middle, and the same twice", """
                row(4, 1); numbers(0, 7); stream(); add(0, 1); write(0, 0, 1) = 9; add(0, 2) = 10; end(0); seek(0, 1); read(0) = 1; about(0, 1) = 9
                seek(0, 1) = 9; read(0) = 2; are(1, 7); are(2, 7); put(2, 0, 8); are(1, 7); are(0, 7); read(0) = SHORT
                """);
        doc.says(quote, "the edges of each KIND by each CODER", """
                row(5, 3); numbers(0, LMIN, LMAX, 0); stream(); write(0, 0, 0); write(0, 0, 1); write(0, 0, 2); write(0, 0, 3); write(0, 0, 4)
                5 x read(0) = @+1
                are(1, LMIN, LMAX, 0); are(2, LMIN, LMAX, 0); are(3, LMIN, LMAX, 0); are(4, LMIN, LMAX, 0); are(5, LMIN, LMAX, 0); read(0) = ENDS
                """);
        doc.says(quote, "24 NUMBERS by each CODER", """
                row(1, 24); put(0, 0, -128); put(0, 22, 126); put(0, 23, 127); stream(); write(0, 0, 0); write(0, 0, 1); write(0, 0, 2)
                write(0, 0, 3); write(0, 0, 4)
                pieces(0) = 5; 5 x read(0) = @+1
                5 x get(@+1, 0) -> -128
                5 x get(@+1, 1) -> 0
                5 x get(@+1, 21) -> 0
                5 x get(@+1, 22) -> 126
                5 x get(@+1, 23) -> 127
                read(0) = ENDS
                """);
        doc.says(quote, "the last NUMBERS of one byte and of two", """
                row(3, 8); numbers(0, 63, -64, 64, -65, 8191, -8192, 8192, -8193); stream(); write(0, 0, 0) = 23; read(0) = 1
                are(1, 63, -64, 64, -65, 8191, -8192, 8192, -8193)
                """);
        doc.says(quote, "the most bytes of a PIECE: 271", """
                row(5, 24); numbers(0, LMIN, LMAX); copy(0, 0, 0, 2, 2); copy(0, 0, 0, 4, 4); copy(0, 0, 0, 8, 8); copy(0, 0, 0, 16, 8)
                stream(); write(0, 0, 3) = 271; read(0) = 1; about(0, 1) = 271; get(1, 0) -> LMIN; get(1, 23) -> LMAX
                """);
    }

    private static void ends(Sentences doc) {
        String quote = "UNKNOWN; ENDS; SHORT: fewer than 7 bytes are there, or fewer than the PIECE has by its fourth and fifth byte;";
        doc.says(quote, "no bytes, one to six, seven", """
                stream(); read(0) = ENDS
                add(0, 160); read(0) = SHORT; add(0, 0); read(0) = SHORT; add(0, 0); read(0) = SHORT
                add(0, 0); read(0) = SHORT; add(0, 0); read(0) = SHORT; add(0, 160); read(0) = SHORT; add(0, 176); read(0) = 0
                """);
        doc.says(quote, "the end of the bytes is the PLACE", """
                stream(); piece(0, 160, 4, 0); seek(0, 7); read(0) = ENDS; seek(0, 6); read(0) = SHORT; seek(0, 1); read(0) = SHORT
                seek(0, 0); read(0) = 0
                """);
        doc.says(quote, "one byte less than the PIECE has; by the fifth byte", """
                stream(); bytes(0, 160, 4, 1, 1, 0, 2, 9); read(0) = SHORT; add(0, 9); read(0) = HARMED
                stream(); bytes(1, 160, 4, 1, 0, 1, 2, 9, 9); read(1) = SHORT
                stream(); bytes(2, 160, 4, 1, 255, 255, 2, 9, 9); read(2) = SHORT
                """);
        doc.says(quote, "SHORT ahead of HARMED", """
                stream(); bytes(0, 1, 99, 99, 1, 0, 0, 0); read(0) = SHORT; stream(); bytes(1, 165, 0, 0, 0, 0, 0); read(1) = SHORT
                """);
        doc.says(quote, "256 bytes made, and one of them is not there", """
                row(5, 24); numbers(0, LMIN, LMAX); copy(0, 0, 0, 2, 2); copy(0, 0, 0, 4, 4); copy(0, 0, 0, 8, 8); copy(0, 0, 0, 16, 8)
                stream(); put(0, 23, 64); write(0, 0, 3) = 263; harm(0, 3, 1) = 1; read(0) = SHORT; add(0, 0) = 264; read(0) = HARMED
                """);
        doc.says(quote, "no STREAM", "stream(); read(1) = UNKNOWN; read(-1) = UNKNOWN; read(MAX) = UNKNOWN; read(MIN) = UNKNOWN");
    }

    private static void head(Sentences doc) {
        doc.says(MADE, "marks 160 and 164, not 159 and 165", """
                stream(); piece(0, 159, 4, 0); read(0) = HARMED; stream(); piece(1, 160, 4, 0); read(1) = 0
                stream(); piece(2, 164, 4, 0, 1); read(2) = 1; stream(); piece(3, 165, 4, 0, 1); read(3) = HARMED
                stream(); piece(4, 0, 4, 0); read(4) = HARMED; stream(); piece(5, 255, 4, 0); read(5) = HARMED; stream(); piece(6, 32, 4, 0)
                read(6) = HARMED
                """);
        doc.says(MADE, "KINDS 0 and 7, not 8 and 255", """
                stream(); piece(0, 160, 0, 0); read(0) = 0; stream(); piece(1, 160, 7, 0); read(1) = 1
                stream(); piece(2, 160, 8, 0); read(2) = HARMED; stream(); piece(3, 160, 255, 0); read(3) = HARMED
                """);
        doc.says(MADE, "24 NUMBERS, not 25 and 255", """
                stream(); piece(0, 163, 4, 24, 0, 46); read(0) = 0; length(0) = 24; stream(); piece(1, 163, 4, 25, 0, 48); read(1) = HARMED
                stream(); piece(2, 163, 4, 255, 0, 252, 3); read(2) = HARMED
                """);
        doc.says(MADE, "25 NUMBERS by the other CODERS", """
                stream(); piece(0, 160, 0, 25, 0, 0, 0, 0, 0, 0, 0, 0, 0, 0, 0, 0, 0, 0, 0, 0, 0, 0, 0, 0, 0, 0, 0, 0, 0); read(0) = HARMED
                stream(); piece(1, 164, 0, 25, 1, 0, 0, 0, 0, 0, 0, 0, 0, 0, 0, 0, 0, 0, 0, 0, 0, 0, 0, 0, 0, 0, 0, 0, 0, 0); read(1) = HARMED
                """);
    }

    private static void sum(Sentences doc) {
        doc.says(MADE, "each byte of THE SUM by one bit", """
                stream(); piece(0, 160, 4, 1, 2); harm(0, 6, 1); read(0) = HARMED; harm(0, 6, 1); harm(0, 7, 128); read(0) = HARMED
                harm(0, 7, 128); read(0) = 0
                """);
        doc.says(MADE, "a byte that the CODER made, and one of the head", """
                stream(); piece(0, 160, 4, 1, 2); harm(0, 5, 2); read(0) = HARMED; harm(0, 5, 2); harm(0, 1, 1); read(0) = HARMED; harm(0, 1, 1)
                harm(0, 0, 1); read(0) = HARMED; harm(0, 0, 1); read(0) = 0
                """);
        doc.says(MADE, "THE SUM of a PIECE, not of the STREAM ahead of it", """
                stream(); bytes(0, 77); piece(0, 160, 4, 1, 2); seek(0, 1); read(0) = 0; are(0, 1)
                """);
    }

    private static void plainMade(Sentences doc) {
        for (int mark = 160; mark <= 162; mark++) {
            String script = """
                    stream(); piece(0, #, 5, 2, 2); read(0) = HARMED                 // a byte too few
                    stream(); piece(1, #, 5, 2, 2, 4, 6); read(1) = HARMED           // a byte too many
                    stream(); piece(2, #, 5, 0, 0); read(2) = HARMED; stream(); piece(3, #, 5, 1); read(3) = HARMED
                    stream(); piece(4, #, 5, 1, 130, 0); read(4) = HARMED            // not as few as may be
                    stream(); piece(5, #, 5, 1, 128, 0); read(5) = HARMED; stream(); piece(6, #, 5, 1, 130); read(6) = HARMED
                    stream(); piece(7, #, 5, 1, 128, 1); read(7) = 0; are(0, 64); stream(); piece(8, #, 5, 2, 2, 128); read(8) = HARMED
                    """;
            doc.says(MADE, "bytes too few, too many, longer than need be, mark " + mark, script.replace("#", "" + mark));
            script = """
                    stream(); piece(0, #, 5, 1, 255, 255, 255, 255, 255, 255, 255, 255, 255, 1); read(0) = 0; are(0, LMIN)
                    stream(); piece(1, #, 5, 1, 255, 255, 255, 255, 255, 255, 255, 255, 255, 2); read(1) = HARMED
                    stream(); piece(2, #, 5, 1, 255, 255, 255, 255, 255, 255, 255, 255, 255, 3); read(2) = HARMED
                    stream(); piece(3, #, 5, 1, 255, 255, 255, 255, 255, 255, 255, 255, 255, 0); read(3) = HARMED
                    stream(); piece(4, #, 5, 1, 255, 255, 255, 255, 255, 255, 255, 255, 255, 129, 0); read(4) = HARMED
                    stream(); piece(5, #, 5, 1, 255, 255, 255, 255, 255, 255, 255, 255, 255, 127); read(5) = HARMED
                    """;
            doc.says(MADE, "64 bits, not 65, mark " + mark, script.replace("#", "" + mark));
        }
    }

    private static void runsMade(Sentences doc) {
        doc.says(MADE, "RUNS: 1 to all of them", """
                stream(); piece(0, 163, 4, 3, 14, 4); read(0) = 0; are(0, 7, 7, 7); stream(); piece(1, 163, 4, 3, 14, 6); read(1) = HARMED
                stream(); piece(2, 163, 4, 3, 14, 2); read(2) = HARMED; stream(); piece(3, 163, 4, 3, 14, 2, 16, 0); read(3) = 1; are(1, 7, 7, 8)
                stream(); piece(4, 163, 4, 3, 14, 2, 16, 2); read(4) = HARMED; stream(); piece(5, 163, 4, 3, 14, 4, 16, 0); read(5) = HARMED
                stream(); piece(6, 163, 4, 1, 14, 0); read(6) = 2; stream(); piece(7, 163, 4, 1, 14, 1); read(7) = HARMED
                """);
        doc.says(MADE, "RUNS: as long as can be", """
                stream(); piece(0, 163, 4, 2, 14, 0, 14, 0); read(0) = HARMED; stream(); piece(1, 163, 4, 3, 14, 0, 16, 0, 14, 0)
                read(1) = 0; are(0, 7, 8, 7)
                stream(); piece(2, 163, 4, 4, 14, 2, 14, 2); read(2) = HARMED
                """);
        doc.says(MADE, "RUNS: no NUMBERS, no length, a length in more bytes, an endless length", """
                stream(); piece(0, 163, 4, 0); read(0) = 0; length(0) = 0; stream(); piece(1, 163, 4, 0, 14, 0); read(1) = HARMED
                stream(); piece(2, 163, 4, 1, 14); read(2) = HARMED; stream(); piece(3, 163, 4, 1, 14, 128, 0); read(3) = HARMED
                stream(); piece(4, 163, 4, 1, 142, 0, 0); read(4) = HARMED; stream(); piece(5, 163, 4, 1); read(5) = HARMED
                stream(); piece(6, 163, 4, 3, 14, 254, 255, 255, 255, 255, 255, 255, 255, 255, 1); read(6) = HARMED
                stream(); piece(7, 163, 4, 3, 14, 255, 255, 255, 255, 255, 255, 255, 255, 255, 1); read(7) = HARMED
                stream(); piece(8, 163, 4, 3, 14, 132, 128, 128, 128, 128, 128, 1); read(8) = HARMED
                """);
        doc.says(MADE, "RUNS: 24, and a run of 25", """
                stream(); piece(0, 163, 4, 24, 0, 46); read(0) = 0; stream(); piece(1, 163, 4, 24, 0, 48); read(1) = HARMED
                stream(); piece(2, 163, 4, 24, 0, 44, 2, 0); read(2) = 1; get(1, 23) -> 1; stream(); piece(3, 163, 4, 24, 0, 44, 2, 2)
                read(3) = HARMED
                stream(); piece(4, 163, 4, 24, 0, 44); read(4) = HARMED
                """);
    }

    private static void wideMade(Sentences doc) {
        doc.says(MADE, "WIDE: w is 1 to 8", """
                stream(); piece(0, 164, 5, 1, 0); read(0) = HARMED; stream(); piece(1, 164, 5, 1, 1, 127); read(1) = 0; are(0, 127)
                stream(); piece(2, 164, 5, 1, 8, 0, 0, 0, 0, 0, 0, 0, 128); read(2) = 1; are(1, LMIN)
                stream(); piece(3, 164, 5, 1, 9, 0, 0, 0, 0, 0, 0, 0, 0, 1); read(3) = HARMED; stream(); piece(4, 164, 5, 0, 0); read(4) = HARMED
                stream(); piece(5, 164, 5, 0, 255); read(5) = HARMED; stream(); piece(6, 164, 5, 0); read(6) = HARMED
                """);
        doc.says(MADE, "WIDE: w is the least one", """
                stream(); piece(0, 164, 5, 1, 2, 127, 0); read(0) = HARMED; stream(); piece(1, 164, 5, 1, 2, 128, 0); read(1) = 0; are(0, 128)
                stream(); piece(2, 164, 5, 1, 2, 128, 255); read(2) = HARMED; stream(); piece(3, 164, 5, 1, 2, 127, 255); read(3) = 1; are(1, -129)
                stream(); piece(4, 164, 5, 2, 2, 1, 0, 0, 1); read(4) = 2; are(2, 1, 257); stream(); piece(5, 164, 5, 0, 2); read(5) = HARMED
                stream(); piece(6, 164, 5, 1, 8, 0, 0, 0, 0, 0, 0, 64, 0); read(6) = HARMED
                """);
        doc.says(MADE, "WIDE: bytes too few and too many", """
                stream(); piece(0, 164, 5, 1, 1); read(0) = HARMED; stream(); piece(1, 164, 5, 1, 1, 5, 5); read(1) = HARMED
                stream(); piece(2, 164, 5, 2, 2, 0, 1, 0); read(2) = HARMED; stream(); piece(3, 164, 5, 0, 1, 0); read(3) = HARMED
                stream(); piece(4, 164, 5, 0, 1); read(4) = 0; length(0) = 0
                """);
        doc.says(MADE, "WIDE: steps that wrap", """
                stream(); piece(0, 164, 5, 2, 8, 255, 255, 255, 255, 255, 255, 255, 127, 1, 0, 0, 0, 0, 0, 0, 0); read(0) = 0; are(0, LMAX, LMIN)
                """);
    }

    private static void kinds(Sentences doc) {
        doc.says(MADE, "truths and bytes: the last NUMBERS of the KIND, and those behind", """
                stream(); piece(0, 160, 0, 1, 2); read(0) = 0; stream(); piece(1, 160, 0, 1, 4); read(1) = HARMED; stream()
                piece(2, 160, 0, 1, 1); read(2) = HARMED
                stream(); piece(3, 160, 1, 2, 254, 1, 255, 1); read(3) = 1; are(1, 127, -128)
                stream(); piece(4, 160, 1, 1, 128, 2); read(4) = HARMED; stream(); piece(5, 160, 1, 1, 129, 2); read(5) = HARMED
                """);
        doc.says(MADE, "chars and shorts", """
                stream(); piece(0, 160, 2, 1, 254, 255, 7); read(0) = 0; are(0, 65535); stream(); piece(1, 160, 2, 1, 128, 128, 8); read(1) = HARMED
                stream(); piece(2, 160, 2, 1, 1); read(2) = HARMED
                stream(); piece(3, 160, 3, 2, 254, 255, 3, 255, 255, 3); read(3) = 1; are(1, 32767, -32768)
                stream(); piece(4, 160, 3, 1, 128, 128, 4); read(4) = HARMED; stream(); piece(5, 160, 3, 1, 129, 128, 4); read(5) = HARMED
                """);
        doc.says(MADE, "ints and floats", """
                stream(); piece(0, 160, 4, 2, 254, 255, 255, 255, 15, 255, 255, 255, 255, 15); read(0) = 0; are(0, MAX, MIN)
                stream(); piece(1, 160, 4, 1, 128, 128, 128, 128, 16); read(1) = HARMED; stream()
                piece(2, 160, 4, 1, 129, 128, 128, 128, 16); read(2) = HARMED
                stream(); piece(3, 160, 6, 1, 255, 255, 255, 255, 15); read(3) = 1; are(1, -0.0f); stream()
                piece(4, 160, 6, 1, 128, 128, 128, 128, 16); read(4) = HARMED
                """);
        doc.says(MADE, "the GAP of floats, and what would be another", """
                stream(); piece(0, 160, 6, 1, 128, 128, 128, 252, 15); read(0) = 0; are(0, GAPf); stream()
                piece(1, 160, 6, 1, 130, 128, 128, 252, 15); read(1) = HARMED
                stream(); piece(2, 160, 6, 1, 128, 128, 128, 248, 15); read(2) = 1; are(1, ENDLESSf); stream()
                piece(3, 160, 6, 1, 130, 128, 128, 248, 15); read(3) = HARMED
                stream(); piece(4, 160, 6, 1, 1); read(4) = HARMED
                """);
        doc.says(MADE, "the GAP of doubles, and what would be another", """
                stream(); piece(0, 160, 7, 1, 128, 128, 128, 128, 128, 128, 128, 248, 255, 1); read(0) = 0; are(0, GAPd)
                stream(); piece(1, 160, 7, 1, 130, 128, 128, 128, 128, 128, 128, 248, 255, 1); read(1) = HARMED
                stream(); piece(2, 160, 7, 1, 128, 128, 128, 128, 128, 128, 128, 240, 255, 1); read(2) = 1; are(1, ENDLESSd)
                stream(); piece(3, 160, 7, 1, 130, 128, 128, 128, 128, 128, 128, 240, 255, 1); read(3) = HARMED; stream()
                piece(4, 160, 7, 1, 1); read(4) = HARMED
                """);
        doc.says(MADE, "the other CODERS go out of the KIND, at the last NUMBER", """
                stream(); piece(0, 161, 1, 2, 254, 1, 2); read(0) = HARMED; stream(); piece(1, 161, 1, 2, 252, 1, 2); read(1) = 0; are(0, 126, 127)
                stream(); piece(2, 162, 0, 3, 0, 2, 0); read(2) = HARMED; stream(); piece(3, 162, 0, 3, 0, 2, 1); read(3) = 1; are(1, 0, 1, 1)
                stream(); piece(4, 163, 0, 2, 4, 2); read(4) = HARMED; stream(); piece(5, 163, 0, 2, 2, 2); read(5) = 2; are(2, 1, 1)
                stream(); piece(6, 164, 1, 2, 1, 127, 1); read(6) = HARMED; stream(); piece(7, 164, 1, 2, 1, 126, 1); read(7) = 3; are(3, 126, 127)
                stream(); piece(8, 164, 2, 1, 1, 255); read(8) = HARMED
                """);
    }

    private static void full(Sentences doc) {
        String quote = "FULL (60 ROWS were made).";
        doc.says(quote, "the 60th is read, the 61st is not; PLACE stays", """
                59 x row(0, 0)
                stream(); piece(0, 160, 4, 0); piece(0, 160, 4, 0); read(0) = 59; read(0) = FULL; about(0, 1) = 7; read(0) = FULL
                """);
        doc.says(quote, "behind UNKNOWN, ENDS, SHORT, HARMED", """
                60 x row(0, 0)
                stream(); read(1) = UNKNOWN; read(0) = ENDS; add(0, 160); read(0) = SHORT; stream(); piece(1, 165, 4, 0); read(1) = HARMED
                stream(); piece(2, 160, 4, 1, 130, 0); read(2) = HARMED; stream(); piece(3, 160, 4, 0); harm(3, 6, 1); read(3) = HARMED
                harm(3, 6, 1); read(3) = FULL; lose(0); read(3) = FULL
                """);
    }

    private static void pieces(Sentences doc) {
        doc.ofPromise(25);
        String quote = "How many PIECES can be read one behind the other from byte 0 on (as read() reads them; neither PLACE nor ROWS change).";
        doc.says(quote, "none of nothing, of too few, of another byte ahead", """
                stream(); pieces(0) = 0; bytes(0, 160, 0, 0, 0, 0, 160); pieces(0) = 0; add(0, 176); pieces(0) = 1; add(0, 160); pieces(0) = 1
                stream(); add(1, 0); piece(1, 160, 4, 0); pieces(1) = 0; seek(1, 1); pieces(1) = 0; read(1) = 0; finding() = 0
                """);
        doc.says(quote, "57 are the most", """
                row(0, 0); stream(); 57 x write(0, 0, 0)
                pieces(0) = 57; add(0, 160) = 400; pieces(0) = 57
                """);
        doc.says(quote, "PLACE, ROWS, FINDINGS stay, and where there is no room for ROWS", """
                60 x row(0, 0)
                stream(); piece(0, 160, 4, 1, 2); piece(0, 160, 4, 1, 4); piece(0, 160, 4, 1, 130, 0); seek(0, 3)
                pieces(0) = 2; about(0, 1) = 3; count(0) = 60; finding() = 0; 9 x findings(@+1) = 0
                """);
        doc.says(quote, "up to the harmed one", """
                stream(); piece(0, 160, 4, 1, 2); piece(0, 164, 4, 0, 1); piece(0, 161, 4, 1, 2); pieces(0) = 3; harm(0, 13, 2); pieces(0) = 1
                harm(0, 13, 2); harm(0, 16, 1); pieces(0) = 2; harm(0, 16, 1); harm(0, 0, 128); pieces(0) = 0; harm(0, 0, 128); end(0); pieces(0) = 3
                """);
        doc.says("UNKNOWN.", "-1, and one behind the last", "stream(); pieces(1) = UNKNOWN; pieces(-1) = UNKNOWN; pieces(MAX) = UNKNOWN; pieces(MIN) = UNKNOWN");
    }
}
