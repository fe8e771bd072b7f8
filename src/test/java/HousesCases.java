/** The boundary cases of the promises 26 to 32: THE STORE and its HOUSES. */
final class HousesCases {
    /** STREAM 0 is ENDED, and the HOUSES 0 to 2 have 30 BODIES of one byte each; the PATHS are 0 to 29 as the BODIES are. */
    static final String THIRTY = "6 x house()\nstream(); add(0, 0); end(0)\n" + thirtyBodies(0);

    private HousesCases() {
    }

    static void all(Sentences doc) {
        house(doc);
        keep(doc);
        keepRefuses(doc);
        keepIsFull(doc);
        find(doc);
        drop(doc);
        list(doc);
        take(doc);
        uses(doc);
    }

    /** A STREAM has one byte, 0, and is ENDED: the HOUSES 0 to 2 come to have the BODIES 0 to 29, and the STREAM has 29. */
    static String thirtyBodies(int s) {
        StringBuilder calls = new StringBuilder("keep(0, 0, " + s + ") = 0\n");
        for (int n = 1; n < 30; n++) {
            calls.append(String.format("harm(%d, 0, %d); keep(%d, %d, %d) = %d\n", s, (n - 1) ^ n, n / 12, n, s, n));
        }
        return calls.append("count(2) = 30\n").toString();
    }

    private static void house(Sentences doc) {
        doc.ofPromise(26);
        doc.says("A new HOUSE: its number.", "0 to 5, each without ENTRIES", """
                house() = 0; list(0, 0) = INDEX; find(0, 0) = NONE; 5 x house() = @+1
                list(5, 0) = INDEX; find(5, 0) = NONE; count(4) = 6; count(2) = 0
                """);
        doc.says("FULL.", "the 7th", "6 x house()\nhouse() = FULL; house() = FULL; find(6, 0) = UNKNOWN; count(4) = 6");
    }

    private static void keep(Sentences doc) {
        doc.ofPromise(27);
        String quote = "What an ENDED STREAM has becomes the ENTRY of a PATH, in place of the one before: the number of the BODY"
                + " (the one that is alike, or a new one).";
        doc.says(quote, "no bytes, one byte", """
                house(); stream(); end(0); stream(); add(1, 0); end(1); keep(0, 0, 0) = 0; keep(0, 1, 1) = 1; take(0, 0) = 2
                about(2, 0) = 0; take(0, 1) = 3; has(3, 0)
                """);
        doc.says(quote, "400 bytes", """
                house(); row(0, 0); stream(); 57 x write(0, 0, 0)
                add(0, 9) = 400; end(0); keep(0, 0, 0) = 0; take(0, 0) = 1; about(1, 0) = 400; at(1, 399) = 9; about(1, 2) = 1; keep(0, 1, 1) = 0
                """);
        doc.says(quote, "in place of the one before, which goes, or stays with another", """
                house(); stream(); add(0, 1); end(0); stream(); add(1, 2); end(1); keep(0, 5, 0) = 0; keep(0, 5, 1) = 1; uses(0) = 0
                uses(1) = 1; count(2) = 1
                keep(0, 6, 1) = 1; keep(0, 5, 0) = 2; uses(1) = 1; uses(2) = 1; count(2) = 2; list(0, 1) = 2 -> 6; find(0, 5) = 2; find(0, 6) = 1
                """);
        doc.says(quote, "in place of itself", """
                house(); stream(); add(0, 1); end(0); keep(0, 5, 0) = 0; keep(0, 5, 0) = 0; uses(0) = 1; count(2) = 1; count(3) = 1
                list(0, 0) = 1 -> 5
                """);
        doc.says(quote, "alike is by bytes, whatever the PLACE; more bytes, fewer bytes are not", """
                house(); 4 x stream()
                bytes(0, 1, 2); bytes(1, 1, 2); bytes(2, 1, 2, 0); bytes(3, 1); seek(1, 2)
                4 x end(@)
                keep(0, 0, 0) = 0; keep(0, 1, 1) = 0; keep(0, 2, 2) = 1; keep(0, 3, 3) = 2
                """);
        doc.says(quote, "what went is not alike, though it left its room", """
                house(); stream(); bytes(0, 1, 2, 3); end(0); stream(); add(1, 1); end(1); keep(0, 0, 0) = 0; drop(0, 0) = 0; keep(0, 0, 1) = 1
                keep(0, 1, 0) = 2; take(0, 0) = 2; has(2, 1); take(0, 1) = 3; has(3, 1, 2, 3)
                """);
        doc.says(quote, "the least PATH, the greatest PATH", """
                house(); stream(); end(0); keep(0, LMAX, 0) = 0; keep(0, 0, 0) = 0; list(0, 0) = 2 -> 0; list(0, 1) = 2 -> LMAX
                """);
    }

    private static void keepRefuses(Sentences doc) {
        String quote = "UNKNOWN: h, s; OUTSIDE: PATH; STATE: it is OPEN;";
        doc.says(quote, "PATHS below 0, an OPEN STREAM", """
                house(); stream(); add(0, 1); keep(0, 0, 0) = STATE; end(0); keep(0, -1, 0) = OUTSIDE; keep(0, LMIN, 0) = OUTSIDE; keep(0, 0, 0) = 0
                delta(0, 0); apply(0, 0) = 1; keep(0, 1, 1) = STATE; take(0, 0) = 2; keep(0, 1, 2) = 0
                """);
        doc.says(quote, "no HOUSE, no STREAM, ahead of OUTSIDE and STATE", """
                house(); stream(); stream(); end(1)
                keep(1, 0, 1) = UNKNOWN; keep(-1, 0, 1) = UNKNOWN; keep(0, 0, 2) = UNKNOWN; keep(0, 0, -1) = UNKNOWN
                keep(MAX, 0, 1) = UNKNOWN; keep(0, 0, MIN) = UNKNOWN
                keep(1, -1, 1) = UNKNOWN; keep(0, -1, 2) = UNKNOWN; keep(1, 0, 0) = UNKNOWN; keep(0, -1, 0) = OUTSIDE
                """);
    }

    private static void keepIsFull(Sentences doc) {
        String quote = "FULL: 12 ENTRIES, and none has the PATH; 30 BODIES, and none is alike (what the PATH has had counts still).";
        doc.says(quote, "the 13th ENTRY, though its BODY is there; in place of another there is room", """
                house(); stream(); add(0, 1); end(0); stream(); add(1, 2); end(1); stream(); 12 x keep(0, @, 0)
                keep(0, 12, 0) = FULL; keep(0, 12, 1) = FULL; keep(0, LMAX, 1) = FULL; keep(0, 11, 1) = 1; keep(0, 0, 1) = 1; keep(0, 12, 0) = FULL
                drop(0, 5) = 0; keep(0, 12, 0) = 0; keep(0, 5, 0) = FULL; list(0, 11) = 12 -> 12
                """);
        doc.says(quote, "12 ENTRIES: behind UNKNOWN, OUTSIDE, STATE", """
                house(); stream(); end(0); stream(); 12 x keep(0, @, 0)
                keep(0, 12, 1) = STATE; keep(0, -12, 0) = OUTSIDE; keep(0, 12, 2) = UNKNOWN; keep(1, 12, 0) = UNKNOWN; keep(0, 12, 0) = FULL
                keep(0, 0, 1) = STATE
                """);
        doc.says(quote, "the 31st BODY: as a new ENTRY, and in place of one that had the last of its own", THIRTY + """
                harm(0, 0, 128); keep(3, 0, 0) = FULL; keep(0, 0, 0) = FULL; keep(2, 29, 0) = FULL; count(2) = 30; count(3) = 30; uses(0) = 1
                """);
        doc.says(quote, "30 BODIES, and one is alike", THIRTY + """
                keep(3, 0, 0) = 29; keep(0, 0, 0) = 29; count(2) = 29; uses(29) = 3; uses(0) = 0; harm(0, 0, 128); keep(3, 0, 0) = 30; count(2) = 30
                keep(2, 29, 0) = 30; count(2) = 30; drop(0, 0) = 29; count(2) = 29; uses(29) = 0
                """);
        doc.says(quote, "30 BODIES, and the one that the PATH has is alike", THIRTY + "keep(2, 29, 0) = 29; uses(29) = 1; count(2) = 30; count(3) = 30");
        doc.says(quote, "30 BODIES: behind UNKNOWN, OUTSIDE, STATE; with both FULL too", THIRTY + """
                stream(); add(1, 99); keep(3, 0, 1) = STATE; end(1); keep(3, -1, 1) = OUTSIDE; keep(6, 0, 1) = UNKNOWN; keep(3, 0, 2) = UNKNOWN
                keep(0, 12, 1) = FULL; keep(0, 12, 0) = FULL; keep(0, 11, 1) = FULL; keep(0, 11, 0) = 29; keep(3, 0, 1) = 30
                """);
        doc.says(quote, "29 BODIES: there is room for one", THIRTY + """
                drop(1, 12) = 12; harm(0, 0, 128); keep(0, 0, 0) = 30; count(2) = 29; uses(0) = 0; harm(0, 0, 64); keep(5, LMAX, 0) = 31
                count(2) = 30
                harm(0, 0, 32); keep(5, 0, 0) = FULL; count(3) = 32
                """);
    }

    private static void find(Sentences doc) {
        doc.ofPromise(28);
        doc.says("The number of the BODY that a PATH has; NONE.", "0 is a number, NONE is none", """
                house(); house(); find(0, 0) = NONE; stream(); end(0); keep(0, 0, 0) = 0; keep(0, LMAX, 0) = 0; find(0, 0) = 0; find(0, 1) = NONE
                find(0, LMAX) = 0; find(0, 9223372036854775806) = NONE; find(1, 0) = NONE; drop(0, 0); find(0, 0) = NONE; finding() = 0
                """);
        doc.says("The number of the BODY that a PATH has; NONE.", "the first, the last of 12", """
                house(); stream(); end(0); 12 x keep(0, @+1, 0)
                stream(); add(1, 1); end(1); keep(0, 12, 1) = 1; find(0, 1) = 0; find(0, 12) = 1; find(0, 0) = NONE; find(0, 13) = NONE
                """);
        doc.says("UNKNOWN; OUTSIDE.", "PATHS below 0; the order", """
                house(); find(0, -1) = OUTSIDE; find(0, LMIN) = OUTSIDE; find(1, 0) = UNKNOWN; find(1, -1) = UNKNOWN; find(-1, -1) = UNKNOWN
                find(MAX, 0) = UNKNOWN; find(MIN, 0) = UNKNOWN
                """);
    }

    private static void drop(Sentences doc) {
        doc.ofPromise(29);
        String quote = "An ENTRY goes: the number of the BODY that it had (which goes, too, if no other has it); NONE.";
        doc.says(quote, "the only one, then none", """
                house(); stream(); end(0); drop(0, 0) = NONE; keep(0, 0, 0) = 0; drop(0, 1) = NONE; drop(0, 0) = 0; drop(0, 0) = NONE
                list(0, 0) = INDEX
                uses(0) = 0; count(2) = 0; count(3) = 1
                """);
        doc.says(quote, "the first, the middle, the last of 12", """
                house(); stream(); end(0); 12 x keep(0, @, 0)
                drop(0, 0) = 0; drop(0, 6) = 0; drop(0, 11) = 0; list(0, 0) = 9 -> 1; list(0, 4) = 9 -> 5; list(0, 5) = 9 -> 7
                list(0, 8) = 9 -> 10; list(0, 9) = INDEX
                uses(0) = 9; find(0, 6) = NONE; find(0, 7) = 0
                """);
        doc.says(quote, "the others keep their own BODIES", """
                house(); 4 x stream()
                bytes(0, 1); bytes(1, 2); bytes(2, 3); bytes(3, 4)
                4 x end(@)
                4 x keep(0, @, @) = @
                drop(0, 0) = 0; find(0, 1) = 1; find(0, 2) = 2; find(0, 3) = 3; drop(0, 2) = 2; find(0, 1) = 1; find(0, 3) = 3
                take(0, 3) = 4; has(4, 4)
                drop(0, 3) = 3; find(0, 1) = 1; uses(1) = 1; keep(0, 0, 0) = 4; find(0, 0) = 4; find(0, 1) = 1; count(2) = 2
                """);
        doc.says(quote, "the BODY stays with another ENTRY, of this HOUSE or of one more", """
                house(); house(); stream(); add(0, 1); end(0); keep(0, 0, 0); keep(0, 1, 0); keep(1, 0, 0); drop(0, 0) = 0; drop(0, 1) = 0
                uses(0) = 1; count(2) = 1
                take(1, 0) = 1; has(1, 1); drop(0, 0) = NONE; drop(1, 0) = 0; count(2) = 0
                """);
        doc.says("UNKNOWN; OUTSIDE.", "PATHS below 0; the order", """
                house(); drop(0, -1) = OUTSIDE; drop(0, LMIN) = OUTSIDE; drop(1, 0) = UNKNOWN; drop(1, -1) = UNKNOWN; drop(-1, -1) = UNKNOWN
                drop(MAX, 0) = UNKNOWN; drop(MIN, 0) = UNKNOWN
                """);
    }

    private static void list(Sentences doc) {
        doc.ofPromise(30);
        String quote = "SEEN becomes the i-th PATH of a HOUSE (from 0, the least first): how many ENTRIES it has.";
        doc.says(quote, "12, kept the last first", """
                house(); stream(); end(0); keep(0, LMAX, 0); keep(0, 2^40, 0); keep(0, 2^32, 0); keep(0, 2^31, 0); keep(0, 9, 0); keep(0, 8, 0)
                keep(0, 7, 0); keep(0, 6, 0); keep(0, 5, 0); keep(0, 4, 0); keep(0, 1, 0); keep(0, 0, 0)
                list(0, 0) = 12 -> 0; list(0, 1) = 12 -> 1; list(0, 2) = 12 -> 4; list(0, 7) = 12 -> 9; list(0, 8) = 12 -> 2^31
                list(0, 9) = 12 -> 2^32
                list(0, 10) = 12 -> 2^40; list(0, 11) = 12 -> LMAX; list(0, 12) = INDEX
                """);
        doc.says(quote, "one, and two of two HOUSES", """
                house(); house(); stream(); end(0); keep(1, 5, 0); list(1, 0) = 1 -> 5; keep(0, 9, 0); keep(0, 3, 0); list(0, 0) = 2 -> 3
                list(0, 1) = 2 -> 9; list(1, 0) = 1 -> 5
                """);
        doc.says("UNKNOWN; INDEX.", "just outside, an empty HOUSE; the order; SEEN stays", """
                house(); house(); stream(); end(0); keep(0, 7, 0); list(0, 0) = 1 -> 7; list(0, 1) = INDEX; list(0, -1) = INDEX
                list(0, MIN) = INDEX; list(0, MAX) = INDEX
                list(1, 0) = INDEX; list(1, -1) = INDEX; list(2, 0) = UNKNOWN; list(2, -1) = UNKNOWN; list(-1, 9) = UNKNOWN
                list(MAX, 0) = UNKNOWN; list(MIN, 0) = UNKNOWN
                drop(0, 7); list(0, 0) = INDEX; seen() = 7
                """);
    }

    private static void take(Sentences doc) {
        doc.ofPromise(31);
        String quote = "A new STREAM, ENDED, with the bytes of the BODY of a PATH: its number.";
        doc.says(quote, "of no bytes, of some; PLACE is 0", """
                house(); stream(); end(0); stream(); bytes(1, 0, 128, 255); seek(1, 2); end(1); keep(0, 0, 0); keep(0, LMAX, 1)
                take(0, 0) = 2; about(2, 0) = 0; about(2, 1) = 0; about(2, 2) = 1; take(0, LMAX) = 3; has(3, 0, 128, 255); about(3, 1) = 0
                about(3, 2) = 1
                add(3, 1) = STATE; end(3) = STATE; uses(1) = 1
                """);
        doc.says(quote, "the bytes that it had when it was kept", """
                house(); stream(); bytes(0, 1, 2); end(0); keep(0, 0, 0) = 0; harm(0, 0, 255); take(0, 0) = 1; has(1, 1, 2); harm(1, 1, 255)
                take(0, 0) = 2; has(2, 1, 2)
                """);
        doc.says(quote, "400 bytes", """
                house(); row(0, 0); stream(); 57 x write(0, 0, 0)
                add(0, 200) = 400; end(0); keep(0, 0, 0); take(0, 0) = 1; about(1, 0) = 400; at(1, 0) = 160; at(1, 399) = 200; pieces(1) = 57
                """);
        quote = "UNKNOWN; OUTSIDE; STATE: there is no such ENTRY; FULL.";
        doc.says(quote, "the 24th, the 25th", """
                house(); stream(); end(0); keep(0, 0, 0); 23 x take(0, 0) = @+1
                take(0, 0) = FULL; take(0, 1) = STATE; take(0, -1) = OUTSIDE; take(1, 0) = UNKNOWN; count(1) = 24
                """);
        doc.says(quote, "the order; no ENTRY, and one that went", """
                house(); house(); stream(); end(0); take(0, 0) = STATE; keep(0, 0, 0); take(1, 0) = STATE; take(0, 1) = STATE; drop(0, 0)
                take(0, 0) = STATE
                take(0, -1) = OUTSIDE; take(0, LMIN) = OUTSIDE; take(2, 0) = UNKNOWN; take(2, -1) = UNKNOWN; take(-1, -1) = UNKNOWN
                take(MAX, 0) = UNKNOWN; take(MIN, 0) = UNKNOWN
                """);
    }

    private static void uses(Sentences doc) {
        doc.ofPromise(32);
        String quote = "How many ENTRIES of all HOUSES have a BODY; 0, if it is gone, or never was.";
        doc.says(quote, "72 of 6 HOUSES", """
                6 x house()
                stream(); end(0); 12 x keep(0, @, 0)
                12 x keep(1, @, 0)
                12 x keep(2, @, 0)
                12 x keep(3, @, 0)
                12 x keep(4, @, 0)
                uses(0) = 60; 12 x keep(5, @, 0)
                uses(0) = 72; drop(5, 11); uses(0) = 71
                """);
        doc.says(quote, "gone, never was, below 0", """
                uses(0) = 0; uses(-1) = 0; uses(MIN) = 0; uses(MAX) = 0; house(); stream(); end(0); keep(0, 0, 0) = 0; uses(0) = 1
                uses(1) = 0; uses(-1) = 0
                drop(0, 0) = 0; uses(0) = 0; keep(0, 0, 0) = 1; uses(0) = 0; uses(1) = 1; finding() = 0
                """);
        doc.says(quote, "30 at a time, and the 31st in the room of another", THIRTY + """
                30 x uses(@) = 1
                uses(30) = 0; drop(0, 3) = 3; uses(3) = 0; harm(0, 0, 128); keep(0, 3, 0) = 30; uses(3) = 0; uses(30) = 1; uses(29) = 1
                """);
    }
}
