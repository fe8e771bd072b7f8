/** The boundary cases of the promises 1 to 8: a new object, and ROWS. */
final class RowsCases {
    private RowsCases() {
    }

    static void all(Sentences doc) {
        newObject(doc);
        row(doc);
        lose(doc);
        kindAndLength(doc);
        put(doc);
        get(doc);
        copy(doc);
        copyRefuses(doc);
    }

    private static void newObject(Sentences doc) {
        doc.ofPromise(1);
        String quote = "No ROWS, STREAMS, BODIES, HOUSES, DELTAS.";
        doc.says(quote, "none is counted, none is told", """
                6 x count(@) = 0
                digest() = 566029; seen() = 0; finding() = 0; 9 x findings(@+1) = 0
                """);
        doc.says(quote, "none has a number", """
                kind(0) = UNKNOWN; length(0) = UNKNOWN; lose(0) = UNKNOWN; put(0, 0, 1) = UNKNOWN; get(0, 0) = UNKNOWN
                copy(0, 0, 0, 0, 0) = UNKNOWN; compare(0, 0, 0) = UNKNOWN; shape(0, 0, 0) = UNKNOWN; rest(0, 0, 0) = UNKNOWN
                most(0, 0) = UNKNOWN; write(0, 0, 0) = UNKNOWN; cost(0, 0) = UNKNOWN; best(0) = UNKNOWN; add(0, 0) = UNKNOWN
                end(0) = UNKNOWN; about(0, 0) = UNKNOWN; at(0, 0) = UNKNOWN; harm(0, 0, 0) = UNKNOWN; seek(0, 0) = UNKNOWN
                read(0) = UNKNOWN; pieces(0) = UNKNOWN; keep(0, 0, 0) = UNKNOWN; find(0, 0) = UNKNOWN; drop(0, 0) = UNKNOWN
                list(0, 0) = UNKNOWN; take(0, 0) = UNKNOWN; uses(0) = 0; delta(0, 0) = UNKNOWN; act(0, 0, 0) = UNKNOWN
                apply(0, 0) = UNKNOWN; finding() = 0; digest() = 566029
                """);
        doc.says(quote, "the first ones are numbered 0", """
                row(0, 0) = 0; stream() = 0; house() = 0; delta(0, 0) = 0; end(0); keep(0, 0, 0) = 0
                """);
    }

    private static void row(Sentences doc) {
        doc.ofPromise(2);
        doc.says("A new ROW: its number.", "0, 1, 2, whatever it has", """
                row(7, 24) = 0; row(0, 0) = 1; row(4, 1) = 2; length(0) = 24; length(1) = 0; length(2) = 1
                """);
        String quote = "OUTSIDE: KIND, n is above 24;";
        doc.says(quote, "KINDS 0 and 7, not -1 and 8", """
                row(-1, 0) = OUTSIDE; row(0, 0) = 0; row(7, 0) = 1; row(8, 0) = OUTSIDE; row(MIN, 0) = OUTSIDE; row(MAX, 0) = OUTSIDE
                """);
        doc.says(quote, "24, not 25", """
                row(4, 24) = 0; row(4, 25) = OUTSIDE; row(4, MAX) = OUTSIDE; row(8, 25) = OUTSIDE
                """);
        doc.says(quote, "ahead of FULL and of SIZE", """
                row(-1, -1) = OUTSIDE; row(8, MIN) = OUTSIDE
                60 x row(0, 0)
                row(8, 0) = OUTSIDE; row(0, 25) = OUTSIDE; row(-1, -1) = OUTSIDE
                """);
        quote = "FULL; SIZE.";
        doc.says(quote, "n is below 0", "row(0, -1) = SIZE; row(7, MIN) = SIZE; row(0, 0) = 0; findings(4) = 2");
        doc.says(quote, "FULL from 60 on, and ahead of SIZE", """
                59 x row(0, 0)
                row(0, -1) = SIZE; row(0, 24) = 59; row(0, 0) = FULL; row(0, -1) = FULL; row(0, MIN) = FULL; findings(4) = 1
                """);
    }

    private static void lose(Sentences doc) {
        doc.ofPromise(3);
        String quote = "A ROW is LOST (it may be already): how many NUMBERS it had.";
        doc.says(quote, "0 and 24", "row(3, 0); row(3, 24); lose(0) = 0; lose(1) = 24; length(0) = NULL; length(1) = NULL");
        doc.says(quote, "the others stay", """
                row(4, 1); row(4, 1); row(4, 1); numbers(0, 7); numbers(2, 9); lose(1) = 1; are(0, 7); are(2, 9); count(0) = 3
                """);
        doc.says(quote, "what was written of it stays", """
                row(4, 1); numbers(0, 7); stream(); write(0, 0, 0) = 8; lose(0) = 1; read(0) = 1; are(1, 7); lose(0) = NULL
                """);
        doc.says("UNKNOWN; NULL.", "again, and what is no ROW", """
                row(4, 2); lose(1) = UNKNOWN; lose(-1) = UNKNOWN; lose(MAX) = UNKNOWN; lose(MIN) = UNKNOWN
                lose(0) = 2; lose(0) = NULL; lose(0) = NULL; lose(1) = UNKNOWN; findings(1) = 2
                """);
    }

    private static void kindAndLength(Sentences doc) {
        doc.ofPromise(4);
        doc.says("Its KIND, also when it is LOST.", "of each KIND, ahead and behind", """
                8 x row(@, 1)
                8 x kind(@) = @
                8 x lose(@) = 1
                8 x kind(@) = @
                finding() = 0
                """);
        doc.says("UNKNOWN.", "-1, and one behind the last", """
                kind(0) = UNKNOWN; row(6, 2); kind(0) = 6; kind(1) = UNKNOWN; kind(-1) = UNKNOWN; kind(MAX) = UNKNOWN; kind(MIN) = UNKNOWN
                lose(0); kind(1) = UNKNOWN
                """);
        doc.ofPromise(5);
        doc.says("How many NUMBERS a ROW has.", "0, 1, 24", "row(2, 0); row(2, 1); row(2, 24); length(0) = 0; length(1) = 1; length(2) = 24");
        doc.says("How many NUMBERS a ROW has.", "a ROW that was read", """
                stream(); row(0, 24); write(0, 0, 3); row(0, 0); write(0, 1, 3); read(0) = 2; read(0) = 3; length(2) = 24; length(3) = 0
                """);
        doc.says("UNKNOWN; NULL.", "-1, one behind the last, a LOST one", """
                row(6, 2); length(1) = UNKNOWN; length(-1) = UNKNOWN; length(MAX) = UNKNOWN; length(MIN) = UNKNOWN
                lose(0); length(0) = NULL; length(1) = UNKNOWN
                """);
    }

    private static void put(Sentences doc) {
        doc.ofPromise(6);
        doc.says("NUMBER i becomes what a WHOLE tells: 0.", "the first and the last one, no other, and not SEEN", """
                row(4, 24); put(0, 0, LMAX) = 0; put(0, 23, 2^31) = 0; seen() = 0
                get(0, 0) -> -1; get(0, 1) -> 0; get(0, 22) -> 0; get(0, 23) -> MIN; put(0, 0, 0) = 0; get(0, 0) -> 0
                """);
        String quote = "UNKNOWN; NULL; INDEX.";
        doc.says(quote, "places just outside", """
                row(4, 2); row(4, 0); put(0, -1, 1) = INDEX; put(0, 2, 1) = INDEX; put(0, MIN, 1) = INDEX; put(0, MAX, 1) = INDEX
                put(1, 0, 1) = INDEX; put(1, -1, 1) = INDEX; row(4, 24); put(2, 24, 1) = INDEX; put(2, 23, 1) = 0
                """);
        doc.says(quote, "NULL ahead of INDEX, UNKNOWN ahead of both", """
                row(4, 2); lose(0); put(0, 0, 1) = NULL; put(0, 2, 1) = NULL; put(0, -1, 1) = NULL
                put(1, 0, 1) = UNKNOWN; put(-1, 0, 1) = UNKNOWN; put(1, 9, 1) = UNKNOWN; put(MAX, -1, 1) = UNKNOWN; put(MIN, 0, 1) = UNKNOWN
                """);
    }

    private static void get(Sentences doc) {
        doc.ofPromise(7);
        doc.says("SEEN becomes the WHOLE of NUMBER i: 0.", "the first and the last one", """
                row(5, 24); put(0, 0, LMIN); put(0, 23, LMAX); get(0, 23) -> LMAX; get(0, 0) -> LMIN; get(0, 12) -> 0
                """);
        doc.says("SEEN becomes the WHOLE of NUMBER i: 0.", "a GAP as it is told", """
                row(6, 1); put(0, 0, -1); get(0, 0) -> GAPf; row(7, 1); put(1, 0, -1); get(1, 0) -> GAPd
                """);
        String quote = "UNKNOWN; NULL; INDEX.";
        doc.says(quote, "places just outside; SEEN stays", """
                row(4, 2); numbers(0, 5, 6); row(4, 0); get(0, 1) -> 6
                get(0, -1) = INDEX; get(0, 2) = INDEX; get(0, MIN) = INDEX; get(0, MAX) = INDEX; get(1, 0) = INDEX; get(1, -1) = INDEX
                seen() = 6
                """);
        doc.says(quote, "NULL ahead of INDEX, UNKNOWN ahead of both; SEEN stays", """
                row(4, 2); put(0, 1, 6); get(0, 1) -> 6; lose(0)
                get(0, 0) = NULL; get(0, 2) = NULL; get(0, -1) = NULL
                get(1, 0) = UNKNOWN; get(-1, 0) = UNKNOWN; get(1, 9) = UNKNOWN; get(MAX, -1) = UNKNOWN; get(MIN, 0) = UNKNOWN; seen() = 6
                """);
    }

    private static void copy(Sentences doc) {
        doc.ofPromise(8);
        String quote = "n NUMBERS of a ROW from i on come to those of another one (or the same) from j on, as if all were taken ahead: 0.";
        doc.says(quote, "all of them, the last one, none", """
                row(4, 3); numbers(0, 1, 2, 3); row(4, 3); numbers(1, 7, 8, 9)
                copy(0, 2, 1, 2, 1) = 0; are(1, 7, 8, 3); copy(0, 0, 1, 1, 0) = 0; are(1, 7, 8, 3); copy(0, 0, 1, 0, 3) = 0; are(1, 1, 2, 3)
                are(0, 1, 2, 3)
                """);
        doc.says(quote, "the same ROW, up by one, down by one, to itself", """
                row(4, 4); numbers(0, 1, 2, 3, 4); copy(0, 0, 0, 1, 3) = 0; are(0, 1, 1, 2, 3)
                copy(0, 1, 0, 0, 3) = 0; are(0, 1, 2, 3, 3); copy(0, 0, 0, 0, 4) = 0; are(0, 1, 2, 3, 3)
                """);
        doc.says(quote, "24 to 24, and GAPS", """
                row(7, 24); put(0, 0, -1); put(0, 23, -0.0d); row(7, 24); copy(0, 0, 1, 0, 24) = 0
                get(1, 0) -> GAPd; get(1, 22) -> 0; get(1, 23) -> -0.0d
                """);
        doc.says(quote, "none at the ends, of an empty one too", """
                row(4, 3); row(4, 0); copy(0, 3, 1, 0, 0) = 0; copy(1, 0, 0, 3, 0) = 0; copy(1, 0, 1, 0, 0) = 0
                """);
        doc.says(quote, "it takes NUMBERS of the KIND from a longer and to a longer one", """
                row(4, 24); put(0, 23, 5); row(4, 1); copy(0, 23, 1, 0, 1) = 0; are(1, 5); copy(1, 0, 0, 0, 1) = 0; get(0, 0) -> 5
                """);
    }

    private static void copyRefuses(Sentences doc) {
        String quote = "UNKNOWN: a, b; CAST; NULL; INDEX (n below 0, too).";
        doc.says(quote, "places just outside, of each ROW", """
                row(4, 3); numbers(0, 1, 2, 3); row(4, 2); numbers(1, 8, 9)
                copy(0, -1, 1, 0, 1) = INDEX; copy(0, 0, 1, -1, 1) = INDEX; copy(0, 2, 1, 0, 2) = INDEX; copy(0, 0, 1, 1, 2) = INDEX
                copy(0, 0, 1, 0, 3) = INDEX; copy(1, 0, 0, 0, 3) = INDEX; copy(0, 4, 1, 0, 0) = INDEX; copy(0, 0, 1, 3, 0) = INDEX
                copy(0, 3, 1, 0, 1) = INDEX; copy(0, 0, 1, 2, 1) = INDEX; copy(0, -1, 1, 0, 0) = INDEX; copy(0, 0, 1, -1, 0) = INDEX
                """);
        doc.says(quote, "n below 0, and what would wrap", """
                row(4, 3); numbers(0, 1, 2, 3); row(4, 3)
                copy(0, 0, 1, 0, -1) = INDEX; copy(0, 1, 1, 1, -1) = INDEX; copy(0, 0, 1, 0, MIN) = INDEX; copy(0, 3, 1, 3, -3) = INDEX
                copy(0, 0, 1, 0, MAX) = INDEX; copy(0, 1, 1, 0, MAX) = INDEX; copy(0, 0, 1, 1, MAX) = INDEX; copy(0, MAX, 1, 0, MAX) = INDEX
                copy(0, MAX, 1, 0, 1) = INDEX; copy(0, 0, 1, MAX, 1) = INDEX; copy(0, MIN, 1, 0, 1) = INDEX; copy(0, 0, 1, MIN, 1) = INDEX
                copy(0, MIN, 1, MIN, MIN) = INDEX
                """);
        doc.says(quote, "unlike KINDS, though none is taken", """
                row(4, 1); row(5, 1); row(2, 1); row(3, 1); row(6, 0)
                copy(0, 0, 1, 0, 1) = CAST; copy(1, 0, 0, 0, 0) = CAST; copy(2, 0, 3, 0, 1) = CAST; copy(0, 0, 4, 0, 0) = CAST
                """);
        doc.says(quote, "a LOST one on each side, and on both", """
                row(4, 1); row(4, 1); lose(1); row(4, 1); lose(2)
                copy(1, 0, 0, 0, 1) = NULL; copy(0, 0, 1, 0, 1) = NULL; copy(1, 0, 2, 0, 1) = NULL; copy(1, 0, 1, 0, 0) = NULL
                """);
        doc.says(quote, "UNKNOWN ahead of CAST, NULL, INDEX", """
                row(4, 1); row(5, 1); lose(1)
                copy(2, 0, 0, 0, 1) = UNKNOWN; copy(0, 0, 2, 0, 1) = UNKNOWN; copy(-1, 0, 0, 0, 1) = UNKNOWN; copy(0, 0, -1, 0, 1) = UNKNOWN
                copy(2, 9, 1, 9, -1) = UNKNOWN; copy(1, 9, 2, 9, -1) = UNKNOWN; copy(0, 9, 2, 9, 1) = UNKNOWN
                copy(MAX, 0, 0, 0, 0) = UNKNOWN; copy(0, 0, MIN, 0, 0) = UNKNOWN
                """);
        doc.says(quote, "CAST ahead of NULL and of INDEX, NULL ahead of INDEX", """
                row(4, 1); row(5, 1); row(4, 1); lose(2)
                copy(2, 0, 1, 0, 1) = CAST; copy(1, 0, 2, 0, 1) = CAST; copy(0, 9, 1, 0, 1) = CAST; copy(0, 0, 1, 0, -1) = CAST
                copy(2, 9, 0, 0, 1) = NULL; copy(0, 9, 2, 0, 1) = NULL; copy(0, 0, 2, 0, -1) = NULL; lose(1); copy(2, 0, 1, 0, 1) = CAST
                """);
    }
}
