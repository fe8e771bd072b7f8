/** The boundary cases that the document's "Terms" name. */
final class TermsCases {
    private TermsCases() {
    }

    static void all(Sentences doc) {
        doc.ofTerms();
        rows(doc);
        wholes(doc);
        gaps(doc);
        plain(doc);
        steps(doc);
        runsAndWide(doc);
        streams(doc);
        pieces(doc);
        store(doc);
        deltas(doc);
        acts(doc);
        findings(doc);
        allIsAsItWas(doc);
        calls(doc);
    }

    private static void rows(Sentences doc) {
        String quote = "======== 1 ROWS (60 at most, numbered as they are made, no number twice) are of KINDS:";
        doc.says(quote, "60 are made, the 61st is not", """
                60 x row(0, 0) = @
                row(0, 0) = FULL; row(7, 24) = FULL
                kind(59) = 0; kind(60) = UNKNOWN; count(0) = 60
                """);
        doc.says(quote, "read() makes the 60th, too, and no 61st", """
                row(4, 0) = 0; stream() = 0; write(0, 0, 0) = 7
                58 x row(1, 1) = @+1
                read(0) = 59; kind(59) = 4
                row(0, 0) = FULL; seek(0, 0) = 7; read(0) = FULL
                """);
        doc.says(quote, "row() and read() number by one count", """
                row(1, 0) = 0; stream() = 0; write(0, 0, 0) = 7; read(0) = 1; row(2, 3) = 2
                seek(0, 0) = 7; read(0) = 3; row(5, 0) = 4
                kind(0) = 1; kind(1) = 1; kind(2) = 2; kind(3) = 1; kind(4) = 5
                """);
        doc.says(quote, "what is lost gives no number back, and no room", """
                row(4, 2) = 0; lose(0) = 2; row(5, 3) = 1; lose(1) = 3; row(6, 4) = 2
                kind(0) = 4; kind(1) = 5; kind(2) = 6
                57 x row(0, 0) = @+3
                row(0, 0) = FULL; lose(59) = 0; row(0, 0) = FULL; count(0) = 60
                """);
        doc.says(quote, "what is refused has no number", """
                row(8, 0) = OUTSIDE; row(0, 25) = OUTSIDE; row(0, -1) = SIZE; row(0, 0) = 0
                stream(); read(0) = ENDS; row(0, 0) = 1
                """);
        quote = "they have 0 to 24 NUMBERS, 0 (false) at first, or are LOST.";
        doc.says(quote, "0 and 24, not -1 and 25", """
                row(5, 0) = 0; row(5, 24) = 1; row(5, -1) = SIZE; row(5, 25) = OUTSIDE
                length(0) = 0; length(1) = 24; get(0, 0) = INDEX; get(1, 23) -> 0; get(1, 24) = INDEX
                """);
        doc.says(quote, "all are 0 at first, of every KIND", """
                8 x row(@, 24) = @
                put(4, 0, 7); get(4, 0) -> 7
                8 x get(@, 1) -> 0
                8 x get(@, 23) -> 0
                8 x most(@, 0) = 0
                8 x compare(@, 22, 23) = 26
                """);
        doc.says(quote, "a LOST one, even of no NUMBERS, has none", """
                row(5, 0); row(5, 24); lose(0) = 0; lose(1) = 24
                length(0) = NULL; length(1) = NULL; get(0, 0) = NULL; get(1, 0) = NULL
                """);
        doc.says("0 truth, 1 byte, 2 char, 3 short, 4 int, 5 long, 6 float, 7 double;", "what -1 tells in each", """
                row(-1, 1) = OUTSIDE; 8 x row(@, 1) = @
                row(8, 1) = OUTSIDE
                8 x kind(@) = @
                8 x put(@, 0, -1)
                get(0, 0) -> 1; get(1, 0) -> -1; get(2, 0) -> 65535; get(3, 0) -> -1
                get(4, 0) -> -1; get(5, 0) -> -1; get(6, 0) -> GAPf; get(7, 0) -> GAPd
                """);
        doc.says("SEEN is a long, 0 at first.", "0, and all 64 bits", """
                seen() = 0; row(5, 2); numbers(0, LMIN, LMAX); seen() = 0
                get(0, 0) -> LMIN; get(0, 1) -> LMAX; row(0, 3); seen() = LMAX
                """);
    }

    private static void wholes(Sentences doc) {
        String quote = "NUMBERS are told by WHOLES, longs: truth 1, 0; whole ones themselves (a char from 0 on);"
                + " a float by its 32 bits, as an int; a double by its 64.";
        doc.says(quote, "the least and the greatest of each KIND", """
                8 x row(@, 2)
                numbers(0, 0, 1); are(0, 0, 1)
                numbers(1, -128, 127); are(1, -128, 127)
                numbers(2, 0, 65535); are(2, 0, 65535)
                numbers(3, -32768, 32767); are(3, -32768, 32767)
                numbers(4, MIN, MAX); are(4, MIN, MAX)
                numbers(5, LMIN, LMAX); are(5, LMIN, LMAX)
                numbers(6, -ENDLESSf, ENDLESSf); are(6, -8388608, 2139095040)
                numbers(7, -ENDLESSd, ENDLESSd); are(7, -4503599627370496, 9218868437227405312)
                """);
        doc.says(quote, "floats below 0 are ints below 0", """
                row(6, 4); numbers(0, 0x80000000, 0xBF800000, 0x80000001, 0xFF7FFFFF)
                are(0, MIN, -1082130432, -2147483647, -8388609)
                row(7, 3); numbers(1, 0x8000000000000000, 0xBFF0000000000000, 0x8000000000000001)
                are(1, LMIN, -4616189618054758400, -9223372036854775807)
                """);
        quote = "A WHOLE tells a NUMBER of a KIND by its lowest bit, 8, 16, 16, 32 bits, by all of it, by its lowest 32, by all.";
        doc.says(quote, "truths: one bit", """
                row(0, 8); numbers(0, 1, 2, 3, -1, -2, LMIN, LMAX, 256); are(0, 1, 0, 1, 1, 0, 0, 1, 0)
                """);
        doc.says(quote, "bytes: 8 bits", """
                row(1, 8); numbers(0, 128, 255, 256, -129, 383, LMIN, LMAX, -256); are(0, -128, -1, 0, 127, 127, 0, -1, 0)
                """);
        doc.says(quote, "chars: 16 bits, shorts: 16", """
                row(2, 7); numbers(0, 32768, 65536, 65537, -1, -65536, LMIN, LMAX); are(0, 32768, 0, 1, 65535, 0, 0, 65535)
                row(3, 7); numbers(1, 32768, 65536, 65535, -32769, -65536, LMIN, LMAX); are(1, -32768, 0, -1, 32767, 0, 0, -1)
                """);
        doc.says(quote, "ints: 32 bits, longs: all", """
                row(4, 7); numbers(0, 2^31, 2^32, 2^32-1, -2^31-1, -2^32, LMIN, LMAX); are(0, MIN, 0, -1, MAX, 0, 0, -1)
                row(5, 5); numbers(1, 2^32, -2^32-1, LMIN, LMAX, 2^62); are(1, 2^32, -2^32-1, LMIN, LMAX, 2^62)
                """);
        doc.says(quote, "floats: 32 bits, doubles: all", """
                row(6, 5); numbers(0, 2^32, 0x13F800000, 0xFFFFFFFF3F800000, LMIN, 0x7FF0000000000001); are(0, 0, 1.0f, 1.0f, 0, 1)
                row(7, 4); numbers(1, 2^32, 0x13F800000, LMIN, 1); are(1, 2^32, 0x13F800000, LMIN, 1)
                """);
    }

    private static void gaps(Sentences doc) {
        String quote = "A float, a double may be a GAP (no number): WHOLES that tell none tell the GAP,"
                + " which is told as 0x7FC00000, as 0x7FF8000000000000.";
        doc.says(quote, "behind the endless float", """
                row(6, 12)
                numbers(0, 0x7F7FFFFF, 0x7F800000, 0x7F800001, 0x7FBFFFFF, 0x7FC00000, 0x7FC00001, 0x7FFFFFFF)
                are(0, MOSTf, ENDLESSf, GAPf, GAPf, GAPf, GAPf, GAPf, 0, 0, 0, 0, 0)
                most(0, 2) -> 5
                """);
        doc.says(quote, "behind the endless float below 0, and whatever stands above its 32 bits", """
                row(6, 7)
                numbers(0, 0xFF7FFFFF, 0xFF800000, 0xFF800001, 0xFFC00000, 0xFFFFFFFF, 0x7FF000007F800000, 0x17F800001)
                are(0, -MOSTf, -ENDLESSf, GAPf, GAPf, GAPf, ENDLESSf, GAPf)
                """);
        doc.says(quote, "behind the endless double", """
                row(7, 6)
                numbers(0, 0x7FEFFFFFFFFFFFFF, 0x7FF0000000000000, 0x7FF0000000000001, 0x7FF7FFFFFFFFFFFF, 0x7FF8000000000001, LMAX)
                are(0, MOSTd, ENDLESSd, GAPd, GAPd, GAPd, GAPd)
                """);
        doc.says(quote, "behind the endless double below 0, and a float's GAP is none", """
                row(7, 6)
                numbers(0, 0xFFEFFFFFFFFFFFFF, 0xFFF0000000000000, 0xFFF0000000000001, 0xFFF8000000000000, -1, 0x7FC00000)
                are(0, -MOSTd, -ENDLESSd, GAPd, GAPd, GAPd, 0x7FC00000)
                """);
        doc.says(quote, "whole ones have no GAP", """
                row(4, 2); numbers(0, 0x7F800001, 0xFFC00000); are(0, 2139095041, -4194304); most(0, 2) -> 0
                row(5, 2); numbers(1, 0x7FF0000000000001, -1); are(1, 9218868437227405313, -1); most(1, 2) -> 0
                """);
    }

    private static void plain(Sentences doc) {
        String quote = "======== 2 CODERS make bytes of NUMBERS (of their WHOLES, v, in order):";
        doc.says(quote, "a float below 0 by its int, a char from 0 on", """
                stream(); row(6, 2); numbers(0, -0.0f, 0x00000001); write(0, 0, 0) = 13
                hasPiece(0, 160, 6, 2, 255, 255, 255, 255, 15, 2)
                stream(); row(2, 2); numbers(1, -1, 1); write(1, 1, 0) = 11
                hasPiece(1, 160, 2, 2, 254, 255, 7, 2)
                """);
        doc.says(quote, "no NUMBERS make no bytes, but for WIDE, which has its w", """
                row(5, 0); cost(0, 0) = 0; cost(0, 1) = 0; cost(0, 2) = 0; cost(0, 3) = 0; cost(0, 4) = 1
                """);
        quote = "0 PLAIN: (v << 1) ^ (v >> 63), by seven bits a byte, the lowest first, with 128 more in all but the last one"
                + " (as few as may be).";
        doc.says(quote, "one byte and two", """
                stream(); row(5, 7); numbers(0, 0, -1, 1, 63, -64, 64, -65); write(0, 0, 0) = 16
                hasPiece(0, 160, 5, 7, 0, 1, 2, 126, 127, 128, 1, 129, 1)
                """);
        doc.says(quote, "two bytes and three", """
                stream(); row(3, 4); numbers(0, 8191, -8192, 8192, -8193); write(0, 0, 0) = 17
                hasPiece(0, 160, 3, 4, 254, 127, 255, 127, 128, 128, 1, 129, 128, 1)
                """);
        doc.says(quote, "the least and the greatest long: ten bytes", """
                stream(); row(5, 2); numbers(0, LMIN, LMAX); write(0, 0, 0) = 27
                hasPiece(0, 160, 5, 2, 255, 255, 255, 255, 255, 255, 255, 255, 255, 1, 254, 255, 255, 255, 255, 255, 255, 255, 255, 1)
                read(0) = 1; are(1, LMIN, LMAX)
                """);
        int[] bits = {6, 13, 20, 27, 34, 41, 48, 55, 62};
        for (int k = 0; k < bits.length; k++) {
            String script = """
                    row(5, 4); numbers(0, 2^B-1, -2^B, 0, 0); cost(0, 0) = IN
                    numbers(0, 2^B, -2^B-1); cost(0, 0) = OUT
                    """;
            doc.says(quote, "the last one in " + (k + 1) + " bytes", script.replace("B", "" + bits[k])
                    .replace("IN", "" + (2 * (k + 1) + 2)).replace("OUT", "" + (2 * (k + 2) + 2)));
        }
    }

    private static void steps(Sentences doc) {
        String quote = "1 STEPS: as PLAIN, but of each v less the one ahead of it (wrapping; of the first one itself).";
        doc.says(quote, "the first one itself", """
                stream(); row(4, 3); numbers(0, 5, 5, 3); write(0, 0, 1) = 10; hasPiece(0, 161, 4, 3, 10, 0, 3)
                """);
        doc.says(quote, "longs wrap, up and down", """
                stream(); row(5, 3); numbers(0, LMIN, LMAX, LMIN); write(0, 0, 1) = 19
                hasPiece(0, 161, 5, 3, 255, 255, 255, 255, 255, 255, 255, 255, 255, 1, 1, 2)
                read(0) = 1; are(1, LMIN, LMAX, LMIN)
                """);
        doc.says(quote, "0 less the least long is the least long", """
                stream(); row(5, 2); numbers(0, 0, LMIN); write(0, 0, 1) = 18
                hasPiece(0, 161, 5, 2, 0, 255, 255, 255, 255, 255, 255, 255, 255, 255, 1)
                row(5, 2); numbers(1, LMIN, 0); cost(1, 1) = 20; row(5, 2); numbers(2, -1, LMAX); cost(2, 1) = 11
                """);
        doc.says(quote, "bytes do not wrap in their KIND", """
                stream(); row(1, 2); numbers(0, 127, -128); write(0, 0, 1) = 11
                hasPiece(0, 161, 1, 2, 254, 1, 253, 3)
                """);
        quote = "2 TWICE: as STEPS, but of what STEPS has made of the v, itself so made.";
        doc.says(quote, "one, two, three NUMBERS", """
                stream(); row(4, 1); numbers(0, 7); write(0, 0, 2) = 8; hasPiece(0, 162, 4, 1, 14)
                stream(); row(4, 2); numbers(1, 7, 8); write(1, 1, 2) = 9; hasPiece(1, 162, 4, 2, 14, 11)
                stream(); row(4, 3); numbers(2, 7, 8, 9); write(2, 2, 2) = 10; hasPiece(2, 162, 4, 3, 14, 11, 0)
                """);
        doc.says(quote, "both times it wraps", """
                stream(); row(5, 3); numbers(0, LMIN, LMAX, LMIN); write(0, 0, 2) = 28
                hasPiece(0, 162, 5, 3, 255, 255, 255, 255, 255, 255, 255, 255, 255, 1, 254, 255, 255, 255, 255, 255, 255, 255, 255, 1, 4)
                read(0) = 1; are(1, LMIN, LMAX, LMIN)
                """);
    }

    private static void runsAndWide(Sentences doc) {
        String quote = "3 RUNS: as PLAIN, of each run of like ones (as long as can be) the v, then how many they are less 1.";
        doc.says(quote, "runs of 1, of 2, and of 1 at the end", """
                stream(); row(4, 4); numbers(0, 5, 6, 6, 5); write(0, 0, 3) = 13; hasPiece(0, 163, 4, 4, 10, 0, 12, 2, 10, 0)
                """);
        doc.says(quote, "a run of all 24, and 24 runs", """
                stream(); row(5, 24); write(0, 0, 3) = 9; hasPiece(0, 163, 5, 24, 0, 46)
                numbers(0, LMIN, LMAX); copy(0, 0, 0, 2, 2); copy(0, 0, 0, 4, 4); copy(0, 0, 0, 8, 8); copy(0, 0, 0, 16, 8)
                cost(0, 3) = 264; put(0, 23, LMIN); cost(0, 3) = 253
                """);
        doc.says(quote, "WHOLES are like, not NUMBERS: 0.0 and -0.0 are two runs, GAPS are one", """
                stream(); row(6, 4); numbers(0, 0.0f, -0.0f, 0x7F800001, -1); write(0, 0, 3) = 21
                hasPiece(0, 163, 6, 4, 0, 0, 255, 255, 255, 255, 15, 0, 128, 128, 128, 252, 15, 2)
                """);
        quote = "4 WIDE: a byte w, then what STEPS has made of each v in w bytes, the lowest first;"
                + " w is the least one, 1 to 8, in which they all are (as two's complement).";
        doc.says(quote, "no NUMBERS: w is 1", """
                stream(); row(5, 0); write(0, 0, 4) = 8; hasPiece(0, 164, 5, 0, 1); read(0) = 1; length(1) = 0
                """);
        doc.says(quote, "one byte and two", """
                stream(); row(4, 2); numbers(0, 127, -1); write(0, 0, 4) = 10; hasPiece(0, 164, 4, 2, 1, 127, 128)
                stream(); row(4, 2); numbers(1, 127, -2); write(1, 1, 4) = 12; hasPiece(1, 164, 4, 2, 2, 127, 0, 127, 255)
                stream(); row(4, 1); numbers(2, 128); write(2, 2, 4) = 10; hasPiece(2, 164, 4, 1, 2, 128, 0)
                """);
        doc.says(quote, "the lowest first, and w by the one that wants the most", """
                stream(); row(4, 3); numbers(0, 0x010203, 0x010203, 0x010204); write(0, 0, 4) = 17
                hasPiece(0, 164, 4, 3, 3, 3, 2, 1, 0, 0, 0, 1, 0, 0)
                """);
        for (int w = 1; w < 8; w++) {
            String script = """
                    row(5, 1); numbers(0, 2^B-1); cost(0, 4) = IN; numbers(0, -2^B); cost(0, 4) = IN
                    numbers(0, 2^B); cost(0, 4) = OUT; numbers(0, -2^B-1); cost(0, 4) = OUT
                    """;
            doc.says(quote, "the last one in " + w + " bytes", script.replace("B", "" + (8 * w - 1))
                    .replace("IN", "" + (w + 1)).replace("OUT", "" + (w + 2)));
        }
        doc.says(quote, "eight bytes, and a step that wraps", """
                stream(); row(5, 2); numbers(0, LMAX, LMIN); write(0, 0, 4) = 24
                hasPiece(0, 164, 5, 2, 8, 255, 255, 255, 255, 255, 255, 255, 127, 1, 0, 0, 0, 0, 0, 0, 0)
                read(0) = 1; are(1, LMAX, LMIN)
                """);
    }

    private static void streams(Sentences doc) {
        String quote = "======== 3 STREAMS (24 at most, numbered as they are made) have 0 to 400 bytes, a PLACE (0 at first),"
                + " and are OPEN (at first) or ENDED.";
        doc.says(quote, "24 are made, the 25th is not", """
                24 x stream() = @
                stream() = FULL; about(23, 0) = 0; about(24, 0) = UNKNOWN; count(1) = 24
                """);
        doc.says(quote, "take() and apply() make them, too", """
                stream() = 0; bytes(0, 1, 2); end(0); house(); keep(0, 5, 0); delta(0, 0)
                take(0, 5) = 1; apply(0, 0) = 2; stream() = 3; take(0, 5) = 4
                19 x stream() = @+5
                stream() = FULL; take(0, 5) = FULL; apply(0, 0) = FULL
                """);
        doc.says(quote, "no bytes", "stream(); about(0, 0) = 0; at(0, 0) = INDEX; seek(0, 0) = 0; seek(0, 1) = INDEX; end(0) = 0");
        doc.says(quote, "400 bytes, not 401", """
                stream(); 400 x add(0, @) = @+1
                add(0, 1) = FULL; about(0, 0) = 400; at(0, 399) = 143; at(0, 400) = INDEX; seek(0, 400) = 0; seek(0, 401) = INDEX
                """);
        doc.says(quote, "PLACE 0 and OPEN at first; of a taken one ENDED", """
                stream(); about(0, 1) = 0; about(0, 2) = 0; bytes(0, 1, 2); about(0, 1) = 0; about(0, 2) = 0
                seek(0, 2); end(0); about(0, 2) = 1; house(); keep(0, 0, 0); delta(0, 0)
                take(0, 0) = 1; about(1, 1) = 0; about(1, 2) = 1; apply(0, 0) = 2; about(2, 1) = 0; about(2, 2) = 0
                """);
    }

    private static void pieces(Sentences doc) {
        String quote = "A PIECE is: 160 and the CODER; the KIND; how many NUMBERS; how many bytes the CODER made, the lower byte,"
                + " the higher one; these; THE SUM of all of that, the lower byte, the higher one.";
        doc.says(quote, "the emptiest one, by its bytes", """
                stream(); row(0, 0); write(0, 0, 0) = 7; has(0, 160, 0, 0, 0, 0, 160, 176)
                """);
        doc.says(quote, "each CODER, each KIND, each of 0 to 24", """
                8 x row(@, 24)
                row(5, 0); row(5, 1); 5 x stream()
                5 x write(@, @, @)
                at(0, 0) = 160; at(1, 0) = 161; at(2, 0) = 162; at(3, 0) = 163; at(4, 0) = 164
                5 x at(@, 1) = @
                5 x at(@, 2) = 24
                stream(); write(5, 7, 3) = 9; at(5, 1) = 7; write(5, 8, 3) = 16; at(5, 11) = 0; write(5, 9, 3) = 25; at(5, 18) = 1
                """);
        doc.says(quote, "255, 256 and 264 bytes made", """
                row(5, 24); numbers(0, LMIN, LMAX); copy(0, 0, 0, 2, 2); copy(0, 0, 0, 4, 4); copy(0, 0, 0, 8, 8); copy(0, 0, 0, 16, 8)
                stream(); put(0, 23, 0); write(0, 0, 3) = 262; at(0, 3) = 255; at(0, 4) = 0
                stream(); put(0, 23, 64); write(1, 0, 3) = 263; at(1, 3) = 0; at(1, 4) = 1
                stream(); put(0, 23, LMAX); write(2, 0, 3) = 271; at(2, 3) = 8; at(2, 4) = 1
                read(0) = 1; read(1) = 2; read(2) = 3; get(1, 23) -> 0; get(2, 23) -> 64; get(3, 23) -> LMAX
                """);
        doc.says(quote, "THE SUM is of the PIECE alone, wherever it stands", """
                stream(); bytes(0, 255, 255); row(4, 1); put(0, 0, 1); write(0, 0, 0) = 10
                has(0, 255, 255, 160, 4, 1, 1, 0, 2, SUM)
                """.replace("SUM", sumOf(160, 4, 1, 1, 0, 2)));
        quote = "THE SUM of bytes: s is 0, for each byte (0 to 255) s becomes 31 s and it, modulo 65536.";
        doc.says(quote, "of no bytes, of one, of two", """
                stream(); about(0, 3) = 0; add(0, 255); about(0, 3) = 255; add(0, 128); about(0, 3) = 8033
                stream(); bytes(1, 0, 0, 0); about(1, 3) = 0; add(1, 1); about(1, 3) = 1
                """);
        doc.says(quote, "65535, and 65536, which is 0", """
                stream(); bytes(0, 68, 6, 1); about(0, 3) = 65535
                stream(); bytes(1, 68, 6, 2); about(1, 3) = 0; add(1, 7); about(1, 3) = 7
                stream(); bytes(2, 68, 6, 1, 255); about(2, 3) = 224
                """);
    }

    private static String sumOf(int... bytes) {
        int sum = Check.sum(bytes);
        return sum % 256 + ", " + sum / 256;
    }

    private static void store(Sentences doc) {
        String quote = "======== 4 THE STORE has BODIES (30 at most at a time), rows of bytes, no two alike,"
                + " numbered as they come (no number twice), each as long as an ENTRY has it.";
        doc.says(quote, "30, not 31, and a 31st when one is gone", """
                stream(); add(0, 0); end(0); 4 x house()
                """ + HousesCases.thirtyBodies(0) + """
                count(3) = 30; harm(0, 0, 255); keep(3, 0, 0) = FULL; keep(0, 0, 0) = FULL
                drop(0, 0) = 0; count(2) = 29; keep(3, 0, 0) = 30; count(2) = 30; count(3) = 31
                """);
        doc.says(quote, "no two alike, in one HOUSE and in two", """
                house(); house(); 3 x stream()
                bytes(0, 1, 2, 3); bytes(1, 1, 2, 3); bytes(2, 1, 2)
                3 x end(@)
                keep(0, 0, 0) = 0; keep(0, 1, 1) = 0; keep(1, 0, 1) = 0; keep(1, 1, 2) = 1; count(2) = 2; uses(0) = 3; uses(1) = 1
                """);
        doc.says(quote, "no bytes are a BODY, too, and only once", """
                house(); stream(); end(0); stream(); end(1); keep(0, 0, 0) = 0; keep(0, 1, 1) = 0; count(2) = 1; uses(0) = 2
                stream(); add(2, 0); end(2); keep(0, 2, 2) = 1
                """);
        doc.says(quote, "400 bytes that differ in the last one alone", """
                house(); row(0, 0); stream(); 57 x write(0, 0, 0)
                add(0, 1) = 400; end(0); keep(0, 0, 0) = 0; harm(0, 399, 128) = 129; keep(0, 1, 0) = 1; harm(0, 399, 128) = 1
                keep(0, 2, 0) = 0; count(2) = 2
                """);
        doc.says(quote, "no number twice, though the bytes come again", """
                house(); stream(); add(0, 1); end(0); keep(0, 0, 0) = 0; drop(0, 0) = 0; count(2) = 0; count(3) = 1
                keep(0, 0, 0) = 1; drop(0, 0) = 1; keep(0, 0, 0) = 2; uses(0) = 0; uses(1) = 0; uses(2) = 1; count(3) = 3
                """);
        doc.says(quote, "it stays with its last ENTRY, and goes with it", """
                house(); house(); stream(); add(0, 1); end(0); keep(0, 0, 0) = 0; keep(1, 0, 0) = 0
                drop(0, 0) = 0; count(2) = 1; keep(0, 7, 0) = 0; drop(1, 0) = 0; drop(0, 7) = 0; count(2) = 0
                """);
        quote = "HOUSES (6 at most, numbered) have ENTRIES (12 at most), each with a PATH (a long, from 0 on) and a BODY.";
        doc.says(quote, "6 HOUSES, not 7", "6 x house() = @\nhouse() = FULL; find(5, 0) = NONE; find(6, 0) = UNKNOWN; count(4) = 6");
        doc.says(quote, "12 ENTRIES in each, not 13", """
                house(); house(); stream(); end(0)
                12 x keep(0, @, 0) = 0
                keep(0, 12, 0) = FULL
                12 x keep(1, @+12, 0) = 0
                keep(1, 24, 0) = FULL; list(0, 11) = 12 -> 11; list(1, 11) = 12 -> 23; uses(0) = 24
                """);
        doc.says(quote, "PATH 0 and the greatest long, not -1 and the least", """
                house(); stream(); end(0); keep(0, 0, 0) = 0; keep(0, LMAX, 0) = 0; keep(0, -1, 0) = OUTSIDE; keep(0, LMIN, 0) = OUTSIDE
                find(0, 0) = 0; find(0, LMAX) = 0; find(0, -1) = OUTSIDE; find(0, LMIN) = OUTSIDE
                """);
        doc.says(quote, "PATHS by all their bits", """
                house(); stream(); end(0); keep(0, 2^32, 0) = 0; find(0, 0) = NONE; find(0, 2^32) = 0; list(0, 0) = 1 -> 2^32
                """);
    }

    private static void deltas(Sentences doc) {
        String quote = "======== 5 DELTAS (16 at most, numbered) are made of two STREAMS, from a to b, as they are then:";
        doc.says(quote, "16, not 17", """
                stream(); 16 x delta(0, 0) = @
                delta(0, 0) = FULL; act(15, -1, 0) = 0; act(16, -1, 0) = UNKNOWN; count(5) = 16
                """);
        doc.says(quote, "what a and b become later is not in it", """
                stream(); bytes(0, 1, 2, 3, 4); stream(); bytes(1, 9, 1, 2, 3, 4); delta(0, 1) = 0
                harm(1, 0, 255); harm(1, 1, 255); add(1, 7); harm(0, 0, 1)
                act(0, -1, 0) = 2; act(0, -1, 1) = 4; act(0, -1, 2) = 1; apply(0, 0) = MISFIT; harm(0, 0, 1)
                apply(0, 0) = 2; has(2, 9, 1, 2, 3, 4)
                """);
        doc.says(quote, "ENDED ones, and one that is both", """
                stream(); bytes(0, 1, 2, 3, 4); end(0); delta(0, 0) = 0; act(0, -1, 0) = 1; act(0, 0, 0) = 0; act(0, 0, 1) = 0; act(0, 0, 2) = 4
                apply(0, 0) = 1; has(1, 1, 2, 3, 4); about(1, 2) = 0
                """);
        quote = "p is 0; as long as b has a byte p:";
        doc.says(quote, "b has none: no ACTS", """
                stream(); bytes(0, 1, 2, 3, 4); stream(); delta(0, 1) = 0; act(0, -1, 0) = 0; act(0, -1, 1) = 0; act(0, -1, 2) = 0
                act(0, 0, 0) = INDEX; apply(0, 0) = 2; about(2, 0) = 0
                """);
        doc.says(quote, "neither has one", """
                stream(); stream(); delta(0, 1) = 0; act(0, -1, 0) = 0; apply(0, 1) = 2; about(2, 0) = 0
                """);
        doc.says(quote, "a has none: all is ADDED", """
                stream(); stream(); bytes(1, 1, 2, 3, 4, 5); delta(0, 1) = 0
                act(0, -1, 0) = 1; act(0, 0, 0) = 1; act(0, 0, 1) = -1; act(0, 0, 2) = 5; act(0, -1, 1) = 0; act(0, -1, 2) = 5
                """);
    }

    private static void acts(Sentences doc) {
        String quote = "of all places of a from which on 4 bytes at least are those of b from p on, the first one with the most:"
                + " COPY these, p goes behind them;";
        doc.says(quote, "4 bytes are COPIED, 3 are not", """
                stream(); bytes(0, 1, 2, 3, 4); stream(); bytes(1, 1, 2, 3, 4); stream(); bytes(2, 1, 2, 3); stream(); bytes(3, 1, 2, 3, 9)
                delta(0, 1) = 0; act(0, -1, 0) = 1; act(0, 0, 0) = 0; act(0, 0, 1) = 0; act(0, 0, 2) = 4
                delta(0, 2) = 1; act(1, -1, 0) = 1; act(1, 0, 0) = 1; act(1, 0, 2) = 3
                delta(0, 3) = 2; act(2, -1, 0) = 1; act(2, 0, 0) = 1; act(2, 0, 2) = 4
                delta(2, 1) = 3; act(3, -1, 0) = 1; act(3, 0, 0) = 1; act(3, 0, 2) = 4
                """);
        doc.says(quote, "the one with the most, though it is the last", """
                stream(); bytes(0, 1, 2, 3, 4, 0, 1, 2, 3, 4, 5); stream(); bytes(1, 1, 2, 3, 4, 5)
                delta(0, 1); act(0, -1, 0) = 1; act(0, 0, 1) = 5; act(0, 0, 2) = 5
                """);
        doc.says(quote, "of two with the most the first", """
                stream(); bytes(0, 0, 1, 2, 3, 4, 0, 1, 2, 3, 4); stream(); bytes(1, 1, 2, 3, 4, 9)
                delta(0, 1); act(0, -1, 0) = 2; act(0, 0, 1) = 1; act(0, 0, 2) = 4; act(0, 1, 0) = 1; act(0, 1, 2) = 1
                """);
        doc.says(quote, "to the end of a, and to the end of b", """
                stream(); bytes(0, 9, 1, 2, 3, 4); stream(); bytes(1, 1, 2, 3, 4, 1, 2, 3, 4); stream(); bytes(2, 1, 2, 3, 4)
                delta(0, 1) = 0; act(0, -1, 0) = 2; act(0, 0, 1) = 1; act(0, 0, 2) = 4; act(0, 1, 1) = 1; act(0, 1, 2) = 4
                delta(1, 2) = 1; act(1, -1, 0) = 1; act(1, 0, 1) = 0; act(1, 0, 2) = 4
                """);
        doc.says(quote, "behind the end there is no byte 0", """
                stream(); bytes(0, 9, 1, 2, 3, 4); stream(); bytes(1, 1, 2, 3, 4, 0); stream(); bytes(2, 7, 1, 2, 3, 4); stream()
                bytes(3, 1, 2, 3, 4, 0)
                delta(0, 1) = 0; act(0, -1, 0) = 2; act(0, 0, 1) = 1; act(0, 0, 2) = 4; act(0, 1, 0) = 1; act(0, 1, 2) = 1
                delta(3, 2) = 1; act(1, -1, 0) = 2; act(1, 0, 2) = 1; act(1, 1, 1) = 0; act(1, 1, 2) = 4; stream(); bytes(4, 1, 2, 3)
                stream(); bytes(5, 9, 1, 2, 3, 0); delta(4, 5) = 2; act(2, -1, 1) = 0; delta(5, 4) = 3; act(3, -1, 1) = 0
                """);
        doc.says(quote, "places that lie in one another", """
                stream(); 6 x add(0, 7)
                stream(); 5 x add(1, 7)
                add(1, 8); stream(); 9 x add(2, 7)
                delta(0, 1) = 0; act(0, -1, 0) = 2; act(0, 0, 1) = 0; act(0, 0, 2) = 5; act(0, 1, 2) = 1
                delta(0, 2) = 1; act(1, -1, 0) = 2; act(1, 0, 1) = 0; act(1, 0, 2) = 6; act(1, 1, 0) = 1; act(1, 1, 2) = 3
                """);
        doc.says(quote, "400 bytes of 400", """
                row(0, 0); stream(); 57 x write(0, 0, 0)
                add(0, 3) = 400; delta(0, 0) = 0; act(0, -1, 0) = 1; act(0, 0, 1) = 0; act(0, 0, 2) = 400; act(0, -1, 1) = 400
                apply(0, 0) = 1; about(1, 0) = 400; at(1, 399) = 3; pieces(1) = 57
                """);
        quote = "if there is none: byte p is ADDED (to the latest ACT, if that ADDS, else a new one), p is one more.";
        doc.says(quote, "the first one, one behind another, one behind a COPY", """
                stream(); bytes(0, 1, 2, 3, 4); stream(); bytes(1, 5, 6, 1, 2, 3, 4, 7, 8, 9, 1, 2, 3, 4, 1, 2, 3, 4, 1)
                delta(0, 1) = 0; act(0, -1, 0) = 6
                act(0, 0, 0) = 1; act(0, 0, 2) = 2; act(0, 1, 0) = 0; act(0, 1, 2) = 4; act(0, 2, 0) = 1; act(0, 2, 2) = 3
                act(0, 3, 0) = 0; act(0, 4, 0) = 0; act(0, 5, 0) = 1; act(0, 5, 2) = 1; act(0, -1, 1) = 12; act(0, -1, 2) = 6
                apply(0, 0) = 2; has(2, 5, 6, 1, 2, 3, 4, 7, 8, 9, 1, 2, 3, 4, 1, 2, 3, 4, 1)
                """);
        doc.says(quote, "p is one more, not three more", """
                stream(); bytes(0, 2, 3, 4, 5); stream(); bytes(1, 1, 2, 3, 4, 5); delta(0, 1)
                act(0, -1, 0) = 2; act(0, 0, 2) = 1; act(0, 1, 1) = 0; act(0, 1, 2) = 4
                """);
        doc.says("ACTS: COPY has a place in a and a length, ADD has bytes.", "a place at a's last four bytes; bytes 0 and 255", """
                stream(); bytes(0, 9, 9, 9, 255, 0, 255, 128); stream(); bytes(1, 0, 255, 255, 0, 255, 128, 255, 0)
                delta(0, 1); act(0, 1, 0) = 0; act(0, 1, 1) = 3; act(0, 1, 2) = 4; act(0, 0, 1) = -1; act(0, 2, 1) = -1
                apply(0, 0) = 2; has(2, 0, 255, 255, 0, 255, 128, 255, 0)
                """);
    }

    private static void findings(Sentences doc) {
        doc.says("======== 6 FINDINGS, answered as -10 less them: 1 NULL: a ROW is LOST. 2 INDEX: there is no such place."
                + " 3 CAST: ROWS are of unlike KINDS. 4 SIZE: below 0. 5 ZERO. 6 ENDS: the PLACE is the STREAM's end."
                + " 7 SHORT: the PIECE goes beyond the end. 8 HARMED. 9 MISFIT.", "each of them by its number", """
                row(4, 1); row(5, 1); row(4, 1); lose(2); stream(); stream(); delta(0, 0)
                length(2) = -11; finding() = 1; get(0, 1) = -12; finding() = 2; copy(0, 0, 1, 0, 1) = -13; finding() = 3
                row(0, -1) = -14; finding() = 4; rest(0, 0, 0) = -15; finding() = 5; read(0) = -16; finding() = 6
                add(1, 160); read(1) = -17; finding() = 7; bytes(1, 0, 0, 0, 0, 0, 0); read(1) = -18; finding() = 8
                apply(0, 1) = -19; finding() = 9
                9 x findings(@+1) = 1
                """);
        doc.says("REFUSALS: UNKNOWN (a number names nothing, or what is gone), OUTSIDE (a number is not as told), STATE, FULL.",
                "each of them by its number", """
                kind(0) = -101; row(8, 0) = -102; stream(); end(0) = 0; end(0) = -103
                23 x stream()
                stream() = -104; finding() = 0; 9 x findings(@+1) = 0
                """);
        doc.says("Of several refusals, FINDINGS the first as a call tells them.", "one call, all that it tells, the last one first", """
                row(4, 1); row(4, 1); lose(1); stream(); stream(); add(1, 0); end(1)
                row(0, 0); 56 x write(0, 2, 0)
                write(0, 0, 0) = 400; write(0, 0, 0) = FULL; write(0, 1, 0) = NULL; end(0)
                write(0, 1, 0) = STATE; write(0, 1, 5) = OUTSIDE; write(0, 3, 5) = UNKNOWN; write(2, 1, 5) = UNKNOWN
                """);
    }

    /**
     * ROWS: 0 ints 5 0 7, 1 floats 1.5 GAP, 2 LOST. STREAMS: 0 OPEN, a PIECE of ROW 0 and its PLACE at 3, 1 ENDED, 2 OPEN,
     * 3 ENDED. HOUSES: 0 with the PATHS 2 and 4, 1 with none. DELTA 0 is of STREAM 1 to STREAM 2. SEEN is 7, the latest FINDING is 6.
     */
    private static final String SOMETHING_OF_ALL = """
            row(4, 3); numbers(0, 5, 0, 7); row(6, 2); numbers(1, 1.5f, GAPf); row(4, 1); lose(2)
            stream(); write(0, 0, 1) = 10; stream(); bytes(1, 1, 2, 3, 4, 5); end(1); stream(); bytes(2, 9, 1, 2, 3, 4); stream(); end(3)
            house(); keep(0, 4, 1) = 0; keep(0, 2, 1) = 0; house(); delta(1, 2) = 0; get(0, 2) -> 7; read(3) = ENDS; seek(0, 3)
            """;

    /**
     * 60 ROWS: 0 of ints, 1 of longs, 2 LOST. 24 STREAMS: 0 OPEN with a PIECE, 1 with 400 bytes, 4 ENDED. 6 HOUSES with 30 BODIES:
     * 0 and 1 have 12 ENTRIES, 2 has 6. 16 DELTAS, of STREAM 1 to itself. SEEN is 3.
     */
    private static final String ALL_FULL = """
            row(4, 1); put(0, 0, 3); row(5, 1); row(4, 1); lose(2); 57 x row(0, 0)
            24 x stream()
            6 x house()
            56 x write(1, 3, 0)
            8 x add(1, 5)
            write(0, 0, 0); seek(1, 7); add(4, 0); end(4)
            16 x delta(1, 1)
            """ + HousesCases.thirtyBodies(4) + "get(0, 0) -> 3\n";

    /** Each refusal and each FINDING of each call; Twins looks whether all is as it was. */
    private static void allIsAsItWas(Sentences doc) {
        String quote = "With one all is as it was, but what finding(), findings() tell.";
        doc.says(quote, "the calls of ROWS", SOMETHING_OF_ALL + """
                row(8, 1) = OUTSIDE; row(0, 25) = OUTSIDE; row(0, -1) = SIZE; lose(3) = UNKNOWN; lose(2) = NULL; kind(3) = UNKNOWN
                length(3) = UNKNOWN; length(2) = NULL; put(3, 0, 1) = UNKNOWN; put(2, 0, 1) = NULL; put(0, 3, 9) = INDEX
                get(3, 0) = UNKNOWN; get(2, 0) = NULL; get(0, 3) = INDEX
                copy(3, 0, 0, 0, 1) = UNKNOWN; copy(0, 0, 3, 0, 1) = UNKNOWN; copy(0, 0, 1, 0, 1) = CAST; copy(2, 0, 0, 0, 1) = NULL
                copy(0, 0, 2, 0, 1) = NULL; copy(0, 0, 0, 1, 3) = INDEX; copy(0, 1, 0, 0, 3) = INDEX; copy(0, 0, 0, 1, -1) = INDEX
                """);
        doc.says(quote, "the calls of NUMBERS", SOMETHING_OF_ALL + """
                compare(3, 0, 0) = UNKNOWN; compare(2, 0, 0) = NULL; compare(0, 0, 3) = INDEX; compare(0, 3, 0) = INDEX
                shape(3, 0, 0) = UNKNOWN; shape(0, 0, 6) = OUTSIDE; shape(0, 0, 1) = STATE; shape(2, 0, 0) = NULL; shape(1, 2, 1) = INDEX
                rest(3, 0, 0) = UNKNOWN; rest(2, 0, 0) = NULL; rest(0, 3, 0) = INDEX; rest(0, 0, 1) = ZERO; rest(1, 0, 1) = ZERO; rest(1, 1, 0) = ZERO
                most(3, 0) = UNKNOWN; most(0, 3) = OUTSIDE; most(2, 0) = NULL; put(1, 0, GAPf); most(1, 0) = ZERO; most(1, 1) = ZERO; seen() = 7
                """);
        doc.says(quote, "the calls of STREAMS", SOMETHING_OF_ALL + """
                write(4, 0, 0) = UNKNOWN; write(0, 3, 0) = UNKNOWN; write(0, 0, 5) = OUTSIDE; write(1, 0, 0) = STATE; write(0, 2, 0) = NULL
                cost(3, 0) = UNKNOWN; cost(0, 5) = OUTSIDE; cost(2, 0) = NULL; best(3) = UNKNOWN; best(2) = NULL
                add(4, 1) = UNKNOWN; add(1, 1) = STATE; end(4) = UNKNOWN; end(1) = STATE; about(4, 0) = UNKNOWN; about(0, 4) = OUTSIDE
                at(4, 0) = UNKNOWN; at(0, 10) = INDEX; harm(4, 0, 1) = UNKNOWN; harm(0, 10, 1) = INDEX; seek(4, 0) = UNKNOWN; seek(0, 11) = INDEX
                """);
        doc.says(quote, "read() and pieces()", SOMETHING_OF_ALL + """
                read(4) = UNKNOWN; read(3) = ENDS; read(0) = SHORT; read(2) = SHORT; pieces(4) = UNKNOWN
                seek(0, 0) = 3; harm(0, 0, 64); read(0) = HARMED; harm(0, 0, 64); harm(0, 9, 1); read(0) = HARMED; harm(0, 9, 1); bytes(0, 1)
                piece(2, 160, 4, 1, 128, 0); seek(2, 5); read(2) = HARMED; read(0) = 3; are(3, 5, 0, 7)
                """);
        doc.says(quote, "the calls of HOUSES", SOMETHING_OF_ALL + """
                keep(2, 0, 1) = UNKNOWN; keep(0, 0, 4) = UNKNOWN; keep(0, -1, 1) = OUTSIDE; keep(0, 5, 2) = STATE; keep(0, 4, 2) = STATE
                find(2, 0) = UNKNOWN; find(0, -1) = OUTSIDE; find(0, 5) = NONE; find(1, 4) = NONE
                drop(2, 0) = UNKNOWN; drop(0, -1) = OUTSIDE; drop(0, 5) = NONE; drop(1, 4) = NONE
                list(2, 0) = UNKNOWN; list(0, 2) = INDEX; list(0, -1) = INDEX; take(2, 0) = UNKNOWN; take(0, -1) = OUTSIDE; take(0, 5) = STATE
                """);
        doc.says(quote, "the calls of DELTAS, and what is told", SOMETHING_OF_ALL + """
                delta(4, 0) = UNKNOWN; delta(0, 4) = UNKNOWN; act(1, 0, 0) = UNKNOWN; act(0, 0, 3) = OUTSIDE; act(0, 9, 0) = INDEX
                apply(1, 1) = UNKNOWN; apply(0, 4) = UNKNOWN; apply(0, 2) = MISFIT; apply(0, 3) = MISFIT; findings(0) = OUTSIDE
                findings(10) = OUTSIDE
                count(6) = OUTSIDE; count(-1) = OUTSIDE; apply(0, 1) = 4; has(4, 9, 1, 2, 3, 4)
                """);
        doc.says(quote, "what is FULL", ALL_FULL + """
                row(0, 0) = FULL; stream() = FULL; write(1, 0, 0) = FULL; add(1, 1) = FULL; read(0) = FULL; house() = FULL; keep(0, 40, 4) = FULL
                take(0, 0) = FULL; delta(0, 0) = FULL; apply(0, 1) = FULL; harm(4, 0, 128); keep(3, 0, 4) = FULL; keep(0, 0, 4) = FULL
                """);
    }

    private static void calls(Sentences doc) {
        doc.says("An object is used for at most 512 calls after it has been made; what later calls answer is free.",
                "the 512th call answers as the first ones did", """
                row(5, 1) = 0; stream() = 0; 400 x add(0, 1) = @+1
                106 x put(0, 0, @) = 0
                get(0, 0) -> 105; get(0, 1) = INDEX; findings(2) = 1
                """);
    }
}
