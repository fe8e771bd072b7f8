/** The boundary cases of the promises 14 to 23: STREAMS, and what CODERS make. */
final class StreamsCases {
    /** ROW 0 has no NUMBERS, STREAM 0 has 392 bytes: 8 are left. */
    private static final String NEARLY_FULL = "row(4, 0) = 0; stream() = 0; 56 x write(0, 0, 0)\nabout(0, 0) = 392\n";
    private static final String FULL_ONE = NEARLY_FULL + "8 x add(0, 7)\nabout(0, 0) = 400\n";

    private StreamsCases() {
    }

    static void all(Sentences doc) {
        stream(doc);
        write(doc);
        writeRefuses(doc);
        cost(doc);
        best(doc);
        add(doc);
        end(doc);
        about(doc);
        at(doc);
        harm(doc);
        seek(doc);
    }

    private static void stream(Sentences doc) {
        doc.ofPromise(14);
        doc.says("A new STREAM: its number.", "the first one, the last one", """
                stream() = 0; about(0, 0) = 0; about(0, 1) = 0; about(0, 2) = 0; about(0, 3) = 0
                23 x stream() = @+1
                about(23, 0) = 0; about(23, 1) = 0; about(23, 2) = 0; add(23, 5) = 1; about(22, 0) = 0
                """);
        doc.says("FULL.", "24 are made, ENDED ones too", """
                24 x stream() = @
                24 x end(@) = 0
                stream() = FULL; stream() = FULL; count(1) = 24
                """);
    }

    private static void write(Sentences doc) {
        doc.ofPromise(15);
        String quote = "A ROW comes behind an OPEN STREAM as a PIECE by a CODER: how many bytes the STREAM has.";
        doc.says(quote, "behind nothing, behind a byte, behind a PIECE; PLACE stays", """
                row(4, 1); numbers(0, 5); stream(); write(0, 0, 0) = 8; add(0, 9) = 9; write(0, 0, 1) = 17; about(0, 1) = 0
                pieces(0) = 1; seek(0, 9); read(0) = 1; are(1, 5); are(0, 5)
                """);
        doc.says(quote, "no NUMBERS by each CODER", """
                row(7, 0); stream(); write(0, 0, 0) = 7; write(0, 0, 1) = 14; write(0, 0, 2) = 21; write(0, 0, 3) = 28; write(0, 0, 4) = 36
                pieces(0) = 5; 5 x read(0) = @+1
                length(5) = 0; kind(5) = 7; read(0) = ENDS
                """);
        doc.says(quote, "400 bytes, to the last one", NEARLY_FULL + """
                row(4, 1); write(0, 1, 0) = 400; at(0, 392) = 160; pieces(0) = 57; seek(0, 392); read(0) = 2; about(0, 1) = 400; are(2, 0)
                """);
        doc.says(quote, "the PIECE with the most bytes", """
                row(5, 24); numbers(0, LMIN, LMAX); copy(0, 0, 0, 2, 2); copy(0, 0, 0, 4, 4); copy(0, 0, 0, 8, 8); copy(0, 0, 0, 16, 8)
                stream(); row(0, 0); 18 x write(0, 1, 0)
                bytes(0, 0, 0, 0); about(0, 0) = 129; write(0, 0, 3) = 400; seek(0, 129); read(0) = 2; get(2, 22) -> LMIN; get(2, 23) -> LMAX
                """);
    }

    private static void writeRefuses(Sentences doc) {
        String quote = "UNKNOWN: s, r; OUTSIDE: CODER 0 .. 4; STATE: it is ENDED; NULL; FULL: there would be more than 400.";
        doc.says(quote, "CODERS 0 and 4, not -1 and 5", """
                row(4, 1); stream(); write(0, 0, -1) = OUTSIDE; write(0, 0, 0) = 8; write(0, 0, 4) = 17; write(0, 0, 5) = OUTSIDE
                write(0, 0, MIN) = OUTSIDE; write(0, 0, MAX) = OUTSIDE; write(0, 0, 160) = OUTSIDE
                """);
        doc.says(quote, "400, not 401", NEARLY_FULL + """
                row(4, 1); put(1, 0, 64); write(0, 1, 0) = FULL; write(0, 1, 4) = FULL; put(1, 0, 63); write(0, 1, 4) = FULL; write(0, 1, 0) = 400
                write(0, 0, 0) = FULL
                """);
        doc.says(quote, "7 bytes behind 393, 394, 400", NEARLY_FULL + """
                add(0, 1); add(0, 1); write(0, 0, 0) = FULL; 6 x add(0, 1)
                write(0, 0, 0) = FULL; add(0, 1) = FULL
                """);
        doc.says(quote, "7 bytes behind 393", NEARLY_FULL + "add(0, 1) = 393; write(0, 0, 0) = 400; write(0, 0, 0) = FULL");
        doc.says(quote, "a STREAM that is ENDED, a ROW that is LOST", """
                row(4, 1); row(4, 1); lose(1); stream(); stream(); end(1); write(1, 0, 0) = STATE; write(0, 1, 0) = NULL; write(0, 0, 0) = 8
                end(0); write(0, 0, 0) = STATE
                """);
        doc.says(quote, "UNKNOWN ahead of all, s or r", """
                row(4, 1); row(4, 1); lose(1); stream(); stream(); end(1)
                write(2, 0, 0) = UNKNOWN; write(0, 2, 0) = UNKNOWN; write(-1, 0, 0) = UNKNOWN; write(0, -1, 0) = UNKNOWN
                write(2, 0, 5) = UNKNOWN; write(0, 2, 5) = UNKNOWN; write(1, 2, 0) = UNKNOWN; write(2, 1, 0) = UNKNOWN; write(MAX, MIN, 9) = UNKNOWN
                """);
        doc.says(quote, "OUTSIDE ahead of STATE and NULL, STATE ahead of NULL", """
                row(4, 1); row(4, 1); lose(1); stream(); stream(); end(1)
                write(1, 0, 5) = OUTSIDE; write(0, 1, -1) = OUTSIDE; write(1, 1, 5) = OUTSIDE; write(1, 1, 0) = STATE
                """);
        doc.says(quote, "FULL behind all the others", FULL_ONE + """
                row(4, 1); row(4, 1); lose(2); write(0, 1, 0) = FULL; write(0, 2, 0) = NULL; write(0, 1, 5) = OUTSIDE; write(0, 3, 0) = UNKNOWN
                end(0); write(0, 1, 0) = STATE; write(0, 2, 0) = STATE
                """);
    }

    private static void cost(Sentences doc) {
        doc.ofPromise(16);
        String quote = "How many bytes a CODER makes of a ROW.";
        doc.says(quote, "of none, of one, the most of all; nothing is written", """
                row(5, 0); cost(0, 0) = 0; cost(0, 4) = 1; row(5, 1); cost(1, 0) = 1; cost(1, 1) = 1; cost(1, 2) = 1; cost(1, 3) = 2; cost(1, 4) = 2
                row(5, 24); numbers(2, LMIN, LMAX); copy(2, 0, 2, 2, 2); copy(2, 0, 2, 4, 4); copy(2, 0, 2, 8, 8); copy(2, 0, 2, 16, 8)
                cost(2, 0) = 240; cost(2, 1) = 33; cost(2, 3) = 264; cost(2, 4) = 193; count(1) = 0
                """);
        doc.says(quote, "0 and the least long by turns", """
                row(5, 24); numbers(0, 0, LMIN); copy(0, 0, 0, 2, 2); copy(0, 0, 0, 4, 4); copy(0, 0, 0, 8, 8); copy(0, 0, 0, 16, 8)
                cost(0, 0) = 132; cost(0, 1) = 231; cost(0, 2) = 33; cost(0, 3) = 156; cost(0, 4) = 193
                """);
        doc.says("UNKNOWN; OUTSIDE; NULL.", "CODERS -1 and 5, and the order", """
                row(4, 1); row(4, 1); lose(1); cost(0, -1) = OUTSIDE; cost(0, 5) = OUTSIDE; cost(0, MIN) = OUTSIDE; cost(0, MAX) = OUTSIDE
                cost(1, 0) = NULL; cost(1, 4) = NULL; cost(1, 5) = OUTSIDE; cost(1, -1) = OUTSIDE
                cost(2, 0) = UNKNOWN; cost(2, 5) = UNKNOWN; cost(-1, -1) = UNKNOWN; cost(MAX, 0) = UNKNOWN; cost(MIN, 9) = UNKNOWN
                """);
    }

    private static void best(Sentences doc) {
        doc.ofPromise(17);
        String quote = "The CODER that makes the fewest bytes of a ROW (of like ones the least).";
        doc.says(quote, "no NUMBERS, one NUMBER: four and three are alike", """
                row(4, 0); best(0) = 0; row(4, 1); numbers(1, 5); best(1) = 0; row(5, 1); numbers(2, LMIN); best(2) = 4; cost(2, 0) = 10
                cost(2, 4) = 9
                """);
        doc.says(quote, "PLAIN and STEPS alike, STEPS and TWICE, TWICE and WIDE, RUNS and WIDE", """
                row(4, 2); numbers(0, 1, 2); cost(0, 0) = 2; cost(0, 1) = 2; best(0) = 0
                row(4, 2); numbers(1, 63, 64); cost(1, 0) = 3; cost(1, 1) = 2; cost(1, 2) = 2; best(1) = 1
                row(4, 2); numbers(2, 100, 100); cost(2, 0) = 4; cost(2, 1) = 3; cost(2, 2) = 4; cost(2, 3) = 3; cost(2, 4) = 3; best(2) = 1
                row(4, 3); numbers(3, 100, 200, 300); cost(3, 0) = 6; cost(3, 1) = 6; cost(3, 2) = 4; cost(3, 4) = 4; best(3) = 2
                row(4, 4); numbers(4, 100, 100, 100, 0); cost(4, 1) = 6; cost(4, 3) = 5; cost(4, 4) = 5; best(4) = 3
                """);
        doc.says(quote, "each of them alone", """
                row(4, 3); numbers(0, 5, -5, 5); cost(0, 0) = 3; cost(0, 1) = 3; best(0) = 0
                row(4, 4); numbers(1, 1000, 1001, 1003, 1002); best(1) = 1
                row(4, 4); numbers(2, 1000, 2000, 3000, 4000); best(2) = 2
                row(4, 7); numbers(3, 1000, 1000, 1000, 5, 5, 5, 5); best(3) = 3
                row(4, 8); numbers(4, 100, 200, 300, 200, 100, 200, 300, 200); best(4) = 4
                """);
        doc.says("UNKNOWN; NULL.", "-1, one behind the last, a LOST one", """
                row(4, 1); row(4, 1); lose(1); best(1) = NULL; best(2) = UNKNOWN; best(-1) = UNKNOWN; best(MAX) = UNKNOWN; best(MIN) = UNKNOWN
                """);
    }

    private static void add(Sentences doc) {
        doc.ofPromise(18);
        String quote = "One byte (the lowest 8 bits) comes behind an OPEN STREAM: how many it has.";
        doc.says(quote, "by 8 bits alone", """
                stream(); add(0, 0) = 1; add(0, 255) = 2; add(0, 256) = 3; add(0, 257) = 4; add(0, -1) = 5; add(0, -128) = 6
                add(0, MIN) = 7; add(0, MAX) = 8
                has(0, 0, 255, 0, 1, 255, 128, 0, 255)
                """);
        doc.says(quote, "the 400th; PLACE stays", FULL_ONE + "about(0, 1) = 0; at(0, 399) = 7; at(0, 391) = 130");
        quote = "UNKNOWN; STATE; FULL.";
        doc.says(quote, "the 401st, whatever it is", FULL_ONE + "add(0, 0) = FULL; add(0, 256) = FULL; end(0) = 400; add(0, 0) = STATE");
        doc.says(quote, "the order", """
                stream(); end(0); add(0, 1) = STATE; add(1, 1) = UNKNOWN; add(-1, 1) = UNKNOWN; add(MAX, 1) = UNKNOWN; add(MIN, 1) = UNKNOWN
                """);
    }

    private static void end(Sentences doc) {
        doc.ofPromise(19);
        String quote = "A STREAM is ENDED: how many bytes it has.";
        doc.says(quote, "none, one", "stream(); stream(); add(1, 1); end(0) = 0; end(1) = 1; about(0, 2) = 1; about(1, 2) = 1; about(1, 1) = 0");
        doc.says(quote, "400", FULL_ONE + "end(0) = 400; about(0, 2) = 1; about(0, 0) = 400");
        doc.says("UNKNOWN; STATE: it is already.", "twice; one that was taken; one that was applied is not", """
                stream(); end(1) = UNKNOWN; end(-1) = UNKNOWN; end(MAX) = UNKNOWN; end(MIN) = UNKNOWN; end(0) = 0; end(0) = STATE
                house(); keep(0, 0, 0); take(0, 0) = 1; end(1) = STATE; delta(0, 0); apply(0, 0) = 2; end(2) = 0; end(2) = STATE
                """);
    }

    private static void about(Sentences doc) {
        doc.ofPromise(20);
        String quote = "How many bytes a STREAM has (what = 0), its PLACE (1), whether it is ENDED (2: 1, 0), THE SUM of all of them (3).";
        doc.says(quote, "of an empty one", "stream(); about(0, 0) = 0; about(0, 1) = 0; about(0, 2) = 0; about(0, 3) = 0; end(0); about(0, 2) = 1");
        doc.says(quote, "of 400, with PLACE at the end", """
                stream(); 400 x add(0, 255)
                seek(0, 400); end(0); about(0, 0) = 400; about(0, 1) = 400; about(0, 2) = 1; about(0, 3) = SUM
                """.replace("SUM", "" + sumOf400()));
        doc.says(quote, "THE SUM is of all, whatever the PLACE, and of what they are now", """
                stream(); bytes(0, 1, 2); seek(0, 2); about(0, 3) = 33; harm(0, 0, 1); about(0, 3) = 2; about(0, 0) = 2
                """);
        doc.says("UNKNOWN; OUTSIDE.", "what 0 and 3, not -1 and 4; the order", """
                stream(); about(0, -1) = OUTSIDE; about(0, 4) = OUTSIDE; about(0, MIN) = OUTSIDE; about(0, MAX) = OUTSIDE
                about(1, 0) = UNKNOWN; about(1, 4) = UNKNOWN; about(-1, -1) = UNKNOWN; about(MAX, 0) = UNKNOWN; about(MIN, 4) = UNKNOWN
                """);
    }

    private static int sumOf400() {
        int[] bytes = new int[400];
        java.util.Arrays.fill(bytes, 255);
        return Check.sum(bytes);
    }

    private static void at(Sentences doc) {
        doc.ofPromise(21);
        doc.says("Byte i (0 to 255).", "0, 127, 128, 255", "stream(); bytes(0, 0, 127, 128, 255); at(0, 0) = 0; at(0, 1) = 127; at(0, 2) = 128; at(0, 3) = 255");
        doc.says("Byte i (0 to 255).", "the 400th", FULL_ONE + "at(0, 399) = 7; at(0, 400) = INDEX");
        doc.says("UNKNOWN; INDEX.", "just outside; the order", """
                stream(); at(0, 0) = INDEX; add(0, 5); at(0, 0) = 5; at(0, 1) = INDEX; at(0, -1) = INDEX; at(0, MIN) = INDEX; at(0, MAX) = INDEX
                at(1, 0) = UNKNOWN; at(-1, 0) = UNKNOWN; at(1, 9) = UNKNOWN; at(MAX, -1) = UNKNOWN; at(MIN, 0) = UNKNOWN
                """);
    }

    private static void harm(Sentences doc) {
        doc.ofPromise(22);
        String quote = "Byte i of any STREAM becomes itself xor the lowest 8 bits of a mask: what it is then.";
        doc.says(quote, "by 8 bits alone, and by none", """
                stream(); bytes(0, 0, 255, 5); harm(0, 0, 255) = 255; harm(0, 0, 256) = 255; harm(0, 0, -1) = 0; harm(0, 1, 0) = 255
                harm(0, 2, 0x104) = 1
                harm(0, 2, MIN) = 1; harm(0, 2, MAX) = 254; has(0, 0, 255, 254)
                """);
        doc.says(quote, "the first and the last one, of an ENDED STREAM too", """
                stream(); bytes(0, 1, 2, 3); end(0); harm(0, 0, 128) = 129; harm(0, 2, 128) = 131; has(0, 129, 2, 131); about(0, 2) = 1
                about(0, 1) = 0
                """);
        doc.says(quote, "no other STREAM, and no BODY", """
                stream(); bytes(0, 1); end(0); house(); keep(0, 0, 0); take(0, 0) = 1; delta(0, 0); apply(0, 0) = 2
                harm(0, 0, 2) = 3; at(1, 0) = 1; at(2, 0) = 1; take(0, 0) = 3; at(3, 0) = 1; harm(1, 0, 4) = 5; take(0, 0) = 4; at(4, 0) = 1
                """);
        doc.says("UNKNOWN; INDEX.", "just outside; the order", """
                stream(); harm(0, 0, 1) = INDEX; add(0, 5); harm(0, 1, 1) = INDEX; harm(0, -1, 1) = INDEX; harm(0, MIN, 1) = INDEX
                harm(0, MAX, 1) = INDEX
                harm(1, 0, 1) = UNKNOWN; harm(-1, 0, 1) = UNKNOWN; harm(1, 9, 1) = UNKNOWN; harm(MAX, -1, 1) = UNKNOWN; harm(MIN, 0, 1) = UNKNOWN
                """);
    }

    private static void seek(Sentences doc) {
        doc.ofPromise(23);
        doc.says("The PLACE becomes p: what it was.", "there and back, also in an ENDED one", """
                stream(); bytes(0, 1, 2, 3); seek(0, 2) = 0; about(0, 1) = 2; seek(0, 2) = 2; seek(0, 3) = 2; end(0); seek(0, 0) = 3; about(0, 1) = 0
                """);
        String quote = "UNKNOWN; INDEX: p is below 0, or beyond the end (the end itself is not).";
        doc.says(quote, "0 and the end, not one more", """
                stream(); seek(0, 0) = 0; seek(0, 1) = INDEX; seek(0, -1) = INDEX; add(0, 5); seek(0, 1) = 0; seek(0, 2) = INDEX; seek(0, -1) = INDEX
                seek(0, MIN) = INDEX; seek(0, MAX) = INDEX; seek(0, 0) = 1
                """);
        doc.says(quote, "the end of 400", FULL_ONE + "seek(0, 400) = 0; seek(0, 401) = INDEX; about(0, 1) = 400; read(0) = ENDS");
        doc.says(quote, "the order", """
                stream(); seek(1, 0) = UNKNOWN; seek(-1, 0) = UNKNOWN; seek(1, -1) = UNKNOWN; seek(MAX, 9) = UNKNOWN; seek(MIN, 0) = UNKNOWN
                """);
    }
}
