/** The boundary cases of the promises 9 to 13: compare, shape, rest, most, seen. */
final class NumbersCases {
    private NumbersCases() {
    }

    static void all(Sentences doc) {
        compare(doc);
        sizeAndSign(doc);
        roundings(doc);
        shapeRefuses(doc);
        rest(doc);
        restIsZero(doc);
        most(doc);
        seen(doc);
    }

    private static void compare(Sentences doc) {
        doc.ofPromise(9);
        String quote = "NUMBER i against NUMBER j: 1 it is less, 2 less or like, 4 greater, 8 greater or like, 16 like, 32 not like:"
                + " those that hold, together";
        doc.says(quote, "less 35, like 26, greater 44", """
                row(4, 3); numbers(0, 5, 6, 5); compare(0, 0, 1) = 35; compare(0, 1, 0) = 44; compare(0, 0, 2) = 26; compare(0, 1, 1) = 26
                """);
        doc.says(quote, "the least and the greatest of each KIND, whose difference wraps", """
                8 x row(@, 2)
                numbers(1, -128, 127); numbers(2, 0, 65535); numbers(3, -32768, 32767); numbers(4, MIN, MAX); numbers(5, LMIN, LMAX)
                numbers(6, -ENDLESSf, ENDLESSf); numbers(7, -ENDLESSd, ENDLESSd)
                7 x compare(@+1, 0, 1) = 35
                7 x compare(@+1, 1, 0) = 44
                """);
        doc.says(quote, "numbers side by side", """
                row(5, 3); numbers(0, LMAX, 2^62, -1); compare(0, 0, 1) = 44; compare(0, 2, 1) = 35
                row(2, 2); numbers(1, 32768, 32767); compare(1, 0, 1) = 44
                row(6, 5); numbers(2, LEASTf, 0.0f, -LEASTf, MOSTf, ENDLESSf)
                compare(2, 0, 1) = 44; compare(2, 2, 1) = 35; compare(2, 3, 4) = 35; compare(2, 4, 4) = 26
                row(7, 5); numbers(3, LEASTd, 0.0d, -LEASTd, -MOSTd, -ENDLESSd)
                compare(3, 0, 1) = 44; compare(3, 2, 1) = 35; compare(3, 3, 4) = 44; compare(3, 4, 4) = 26
                row(6, 2); numbers(4, -1.5f, -1.25f); compare(4, 0, 1) = 35; row(7, 2); numbers(5, -1.5d, -1.25d); compare(5, 0, 1) = 35
                """);
        doc.says("(with a GAP 32 alone; 0.0 and -0.0 are like; truths: false is less).", "GAPS, also against themselves", """
                row(6, 3); numbers(0, GAPf, 1.0f, -1); row(7, 3); numbers(1, GAPd, ENDLESSd, -1)
                2 x compare(@, 0, 0) = 32
                2 x compare(@, 0, 1) = 32
                2 x compare(@, 1, 0) = 32
                2 x compare(@, 0, 2) = 32
                row(5, 1); put(2, 0, GAPd); compare(2, 0, 0) = 26; row(4, 1); put(3, 0, GAPf); compare(3, 0, 0) = 26
                """);
        doc.says("(with a GAP 32 alone; 0.0 and -0.0 are like; truths: false is less).", "both zeros, both truths", """
                row(6, 2); numbers(0, 0.0f, -0.0f); compare(0, 0, 1) = 26; compare(0, 1, 0) = 26; compare(0, 1, 1) = 26
                row(7, 2); numbers(1, 0.0d, -0.0d); compare(1, 0, 1) = 26; compare(1, 1, 0) = 26; compare(1, 1, 1) = 26
                row(0, 2); numbers(2, 0, 1); compare(2, 0, 1) = 35; compare(2, 1, 0) = 44; compare(2, 0, 0) = 26; compare(2, 1, 1) = 26
                row(5, 2); numbers(3, 0, LMIN); compare(3, 0, 1) = 44; row(4, 2); numbers(4, 0, MIN); compare(4, 0, 1) = 44
                """);
        doc.says("UNKNOWN; NULL; INDEX.", "each of i and j just outside", """
                row(4, 2); compare(0, -1, 0) = INDEX; compare(0, 2, 0) = INDEX; compare(0, 0, -1) = INDEX; compare(0, 0, 2) = INDEX
                compare(0, MIN, 0) = INDEX; compare(0, 0, MAX) = INDEX; compare(0, 2, 2) = INDEX; row(4, 0); compare(1, 0, 0) = INDEX
                """);
        doc.says("UNKNOWN; NULL; INDEX.", "NULL ahead of INDEX, UNKNOWN ahead of both", """
                row(4, 2); lose(0); compare(0, 0, 1) = NULL; compare(0, 2, 0) = NULL; compare(0, 0, -1) = NULL
                compare(1, 0, 0) = UNKNOWN; compare(-1, 9, 9) = UNKNOWN; compare(MAX, -1, 0) = UNKNOWN; compare(MIN, 0, 0) = UNKNOWN
                """);
    }

    private static void sizeAndSign(Sentences doc) {
        doc.ofPromise(10);
        String quote = "SEEN becomes the WHOLE of what comes of NUMBER i: way = 0 its size (the least whole one stays);";
        doc.says(quote, "the least ones stay, their neighbours do not", """
                row(1, 2); numbers(0, -128, -127); shape(0, 0, 0) -> -128; shape(0, 1, 0) -> 127
                row(3, 2); numbers(1, -32768, -32767); shape(1, 0, 0) -> -32768; shape(1, 1, 0) -> 32767
                row(4, 2); numbers(2, MIN, -MAX); shape(2, 0, 0) -> MIN; shape(2, 1, 0) -> MAX
                row(5, 2); numbers(3, LMIN, -LMAX); shape(3, 0, 0) -> LMIN; shape(3, 1, 0) -> LMAX
                """);
        doc.says(quote, "0, those above it, truths, chars; the NUMBER stays", """
                row(5, 3); numbers(0, 0, 7, -7); shape(0, 0, 0) -> 0; shape(0, 1, 0) -> 7; shape(0, 2, 0) -> 7; are(0, 0, 7, -7)
                row(0, 2); numbers(1, 0, 1); shape(1, 0, 0) -> 0; shape(1, 1, 0) -> 1
                row(2, 2); numbers(2, 65535, 32768); shape(2, 0, 0) -> 65535; shape(2, 1, 0) -> 32768
                """);
        doc.says(quote, "floats and doubles", """
                row(6, 4); numbers(0, -0.0f, -ENDLESSf, -LEASTf, 2.5f)
                shape(0, 0, 0) -> 0; shape(0, 1, 0) -> ENDLESSf; shape(0, 2, 0) -> LEASTf; shape(0, 3, 0) -> 2.5f
                row(7, 4); numbers(1, -0.0d, -ENDLESSd, -LEASTd, 2.5d)
                shape(1, 0, 0) -> 0; shape(1, 1, 0) -> ENDLESSd; shape(1, 2, 0) -> LEASTd; shape(1, 3, 0) -> 2.5d
                """);
        quote = "4 its sign, 1.0, -1.0 (0.0, -0.0 themselves),";
        doc.says(quote, "floats", """
                row(6, 8); numbers(0, 0.0f, -0.0f, LEASTf, -LEASTf, ENDLESSf, -ENDLESSf, 1.0f, -0.5f)
                shape(0, 0, 4) -> 0; shape(0, 1, 4) -> -0.0f; shape(0, 2, 4) -> 1.0f; shape(0, 3, 4) -> -1.0f
                shape(0, 4, 4) -> 1.0f; shape(0, 5, 4) -> -1.0f; shape(0, 6, 4) -> 1.0f; shape(0, 7, 4) -> -1.0f
                """);
        doc.says(quote, "doubles", """
                row(7, 8); numbers(0, 0.0d, -0.0d, LEASTd, -LEASTd, ENDLESSd, -ENDLESSd, 1.0d, -0.5d)
                shape(0, 0, 4) -> 0; shape(0, 1, 4) -> -0.0d; shape(0, 2, 4) -> 1.0d; shape(0, 3, 4) -> -1.0d
                shape(0, 4, 4) -> 1.0d; shape(0, 5, 4) -> -1.0d; shape(0, 6, 4) -> 1.0d; shape(0, 7, 4) -> -1.0d
                """);
        quote = "5 it with the other sign (a GAP stays one, whatever the way).";
        doc.says(quote, "both zeros, both endless ones", """
                row(6, 5); numbers(0, 0.0f, -0.0f, ENDLESSf, -ENDLESSf, LEASTf)
                shape(0, 0, 5) -> -0.0f; shape(0, 1, 5) -> 0; shape(0, 2, 5) -> -ENDLESSf; shape(0, 3, 5) -> ENDLESSf; shape(0, 4, 5) -> -LEASTf
                row(7, 5); numbers(1, 0.0d, -0.0d, ENDLESSd, -ENDLESSd, -LEASTd)
                shape(1, 0, 5) -> -0.0d; shape(1, 1, 5) -> 0; shape(1, 2, 5) -> -ENDLESSd; shape(1, 3, 5) -> ENDLESSd; shape(1, 4, 5) -> LEASTd
                """);
        doc.says(quote, "GAPS, the six ways", """
                row(6, 1); put(0, 0, -1); row(7, 1); put(1, 0, -1); row(5, 1)
                shape(0, 0, 0) -> GAPf; shape(0, 0, 1) -> GAPf; shape(0, 0, 2) -> GAPf
                shape(0, 0, 3) -> GAPf; shape(0, 0, 4) -> GAPf; shape(0, 0, 5) -> GAPf; get(2, 0) -> 0
                shape(1, 0, 0) -> GAPd; shape(1, 0, 1) -> GAPd; shape(1, 0, 2) -> GAPd
                shape(1, 0, 3) -> GAPd; shape(1, 0, 4) -> GAPd; shape(1, 0, 5) -> GAPd; get(1, 0) -> GAPd
                """);
        doc.says("5 of whole ones wraps in the KIND; a truth is turned round by 5.", "the least ones, chars, truths", """
                row(1, 2); numbers(0, -128, 127); shape(0, 0, 5) -> -128; shape(0, 1, 5) -> -127
                row(3, 2); numbers(1, -32768, 32767); shape(1, 0, 5) -> -32768; shape(1, 1, 5) -> -32767
                row(4, 3); numbers(2, MIN, MAX, 0); shape(2, 0, 5) -> MIN; shape(2, 1, 5) -> -MAX; shape(2, 2, 5) -> 0
                row(5, 2); numbers(3, LMIN, LMAX); shape(3, 0, 5) -> LMIN; shape(3, 1, 5) -> -LMAX
                row(2, 4); numbers(4, 0, 1, 65535, 32768)
                shape(4, 0, 5) -> 0; shape(4, 1, 5) -> 65535; shape(4, 2, 5) -> 1; shape(4, 3, 5) -> 32768
                row(0, 2); numbers(5, 0, 1); shape(5, 0, 5) -> 1; shape(5, 1, 5) -> 0; are(5, 0, 1)
                """);
    }

    private static void roundings(Sentences doc) {
        String quote = "of floats, doubles alone: 1 the greatest whole one not above it, 2 the least one not below it,"
                + " 3 the nearest one, of two the even one (with its sign, if that is 0),";
        for (int kind = 6; kind <= 7; kind++) {
            doc.says(quote, "between -1 and 1, KIND " + kind, ofBoth("""
                    row(K, 6); numbers(0, 0.5t, -0.5t, LEASTt, -LEASTt, 0.0t, -0.0t)
                    shape(0, 0, 1) -> 0; shape(0, 1, 1) -> -1.0t; shape(0, 2, 1) -> 0; shape(0, 3, 1) -> -1.0t; shape(0, 4, 1) -> 0
                    shape(0, 5, 1) -> -0.0t
                    shape(0, 0, 2) -> 1.0t; shape(0, 1, 2) -> -0.0t; shape(0, 2, 2) -> 1.0t; shape(0, 3, 2) -> -0.0t; shape(0, 4, 2) -> 0
                    shape(0, 5, 2) -> -0.0t
                    shape(0, 0, 3) -> 0; shape(0, 1, 3) -> -0.0t; shape(0, 2, 3) -> 0; shape(0, 3, 3) -> -0.0t; shape(0, 4, 3) -> 0
                    shape(0, 5, 3) -> -0.0t
                    """, kind));
            doc.says(quote, "whole ones and halves, KIND " + kind, ofBoth("""
                    row(K, 7); numbers(0, 1.0t, -1.0t, 1.5t, -1.5t, 2.5t, -2.5t, 3.5t)
                    shape(0, 0, 1) -> 1.0t; shape(0, 1, 1) -> -1.0t; shape(0, 2, 1) -> 1.0t; shape(0, 3, 1) -> -2.0t; shape(0, 4, 1) -> 2.0t
                    shape(0, 5, 1) -> -3.0t
                    shape(0, 0, 2) -> 1.0t; shape(0, 1, 2) -> -1.0t; shape(0, 2, 2) -> 2.0t; shape(0, 3, 2) -> -1.0t; shape(0, 4, 2) -> 3.0t
                    shape(0, 5, 2) -> -2.0t
                    shape(0, 0, 3) -> 1.0t; shape(0, 1, 3) -> -1.0t; shape(0, 2, 3) -> 2.0t; shape(0, 3, 3) -> -2.0t; shape(0, 4, 3) -> 2.0t
                    shape(0, 5, 3) -> -2.0t
                    shape(0, 6, 3) -> 4.0t; shape(0, 6, 1) -> 3.0t; shape(0, 6, 2) -> 4.0t
                    """, kind));
            doc.says(quote, "the endless and the greatest ones are whole, KIND " + kind, ofBoth("""
                    row(K, 4); numbers(0, ENDLESSt, -ENDLESSt, MOSTt, -MOSTt)
                    shape(0, 0, 1) -> ENDLESSt; shape(0, 1, 1) -> -ENDLESSt; shape(0, 2, 1) -> MOSTt; shape(0, 3, 1) -> -MOSTt
                    shape(0, 0, 2) -> ENDLESSt; shape(0, 1, 2) -> -ENDLESSt; shape(0, 2, 2) -> MOSTt; shape(0, 3, 2) -> -MOSTt
                    shape(0, 0, 3) -> ENDLESSt; shape(0, 1, 3) -> -ENDLESSt; shape(0, 2, 3) -> MOSTt; shape(0, 3, 3) -> -MOSTt
                    """, kind));
        }
        doc.says(quote, "the floats beside a half and beside 1", """
                row(6, 6); numbers(0, 0x3EFFFFFF, 0x3F000001, 0x3F7FFFFF, 0x3F800001, 0xBF000001, 0xBF7FFFFF)
                shape(0, 0, 3) -> 0; shape(0, 1, 3) -> 1.0f; shape(0, 2, 3) -> 1.0f; shape(0, 3, 3) -> 1.0f; shape(0, 4, 3) -> -1.0f
                shape(0, 5, 3) -> -1.0f
                shape(0, 2, 1) -> 0; shape(0, 3, 1) -> 1.0f; shape(0, 3, 2) -> 2.0f; shape(0, 5, 1) -> -1.0f; shape(0, 5, 2) -> -0.0f
                """);
        doc.says(quote, "the floats that have the last half, and that have none", """
                row(6, 5); numbers(0, 4194303.5f, 4194304.5f, 8388607.5f, 8388609.0f, -8388607.5f)
                shape(0, 0, 3) -> 4194304.0f; shape(0, 1, 3) -> 4194304.0f; shape(0, 2, 3) -> 8388608.0f; shape(0, 3, 3) -> 8388609.0f
                shape(0, 2, 1) -> 8388607.0f; shape(0, 2, 2) -> 8388608.0f; shape(0, 4, 1) -> -8388608.0f; shape(0, 4, 2) -> -8388607.0f
                shape(0, 3, 1) -> 8388609.0f; shape(0, 3, 2) -> 8388609.0f
                """);
        doc.says(quote, "the doubles beside a half, and that have the last half", """
                row(7, 5); numbers(0, 0x3FDFFFFFFFFFFFFF, 0x3FE0000000000001, 4503599627370495.5d, 4503599627370497.0d, -4503599627370495.5d)
                shape(0, 0, 3) -> 0; shape(0, 1, 3) -> 1.0d; shape(0, 2, 3) -> 4503599627370496.0d; shape(0, 3, 3) -> 4503599627370497.0d
                shape(0, 2, 1) -> 4503599627370495.0d; shape(0, 2, 2) -> 4503599627370496.0d
                shape(0, 4, 1) -> -4503599627370496.0d; shape(0, 4, 2) -> -4503599627370495.0d; shape(0, 3, 1) -> 4503599627370497.0d
                """);
    }

    /** A script of floats, 6, or of doubles, 7. */
    private static String ofBoth(String script, int kind) {
        return script.replace("K", "" + kind).replaceAll("(?<=[0-9]|LEAST|MOST|ENDLESS)t\\b", kind == 6 ? "f" : "d");
    }

    private static void shapeRefuses(Sentences doc) {
        String quote = "UNKNOWN; OUTSIDE: way is not 0 .. 5; STATE: another way than 0, 5, and the KIND is none of these; NULL; INDEX.";
        doc.says(quote, "ways 0 and 5, not -1 and 6", """
                row(7, 1); shape(0, 0, 0) = 0; shape(0, 0, 5) = 0; shape(0, 0, -1) = OUTSIDE; shape(0, 0, 6) = OUTSIDE
                shape(0, 0, MIN) = OUTSIDE; shape(0, 0, MAX) = OUTSIDE
                """);
        doc.says(quote, "ways 1 and 4 are not of whole ones; 0 and 5 are; of floats and doubles all are", """
                8 x row(@, 1)
                6 x shape(@, 0, 1) = STATE
                6 x shape(@, 0, 2) = STATE
                6 x shape(@, 0, 3) = STATE
                6 x shape(@, 0, 4) = STATE
                6 x shape(@, 0, 0) = 0
                6 x shape(@, 0, 5) = 0
                6 x shape(6, 0, @) = 0
                6 x shape(7, 0, @) = 0
                """);
        doc.says(quote, "places just outside", """
                row(6, 2); row(6, 0); shape(0, -1, 1) = INDEX; shape(0, 2, 1) = INDEX; shape(0, MIN, 0) = INDEX; shape(0, MAX, 5) = INDEX
                shape(1, 0, 0) = INDEX; row(4, 2); shape(2, 2, 0) = INDEX; shape(2, -1, 5) = INDEX; shape(2, 1, 5) = 0
                """);
        doc.says(quote, "OUTSIDE ahead of NULL and INDEX, STATE too", """
                row(4, 2); row(6, 2); shape(0, 2, 6) = OUTSIDE; shape(0, -1, 1) = STATE; lose(0); lose(1)
                shape(0, 0, 6) = OUTSIDE; shape(1, 0, -1) = OUTSIDE; shape(0, 0, 1) = STATE; shape(0, 9, 4) = STATE
                """);
        doc.says(quote, "NULL ahead of INDEX, UNKNOWN ahead of all", """
                row(4, 2); row(6, 2); lose(0); lose(1); shape(0, 0, 0) = NULL; shape(0, 2, 5) = NULL; shape(1, 0, 1) = NULL; shape(1, -1, 4) = NULL
                shape(2, 0, 0) = UNKNOWN; shape(2, 0, 6) = UNKNOWN; shape(-1, -1, 1) = UNKNOWN; shape(MAX, 0, -1) = UNKNOWN
                shape(MIN, 0, 0) = UNKNOWN
                """);
    }

    private static void rest(Sentences doc) {
        doc.ofPromise(11);
        String quote = "SEEN becomes the WHOLE of the remainder of NUMBER i by NUMBER j (with the sign of i; a truth as 1, 0).";
        doc.says(quote, "the signs of whole ones", """
                row(4, 5); numbers(0, 7, -7, 3, -3, 0); rest(0, 0, 2) -> 1; rest(0, 1, 2) -> -1; rest(0, 0, 3) -> 1; rest(0, 1, 3) -> -1
                rest(0, 4, 2) -> 0; rest(0, 2, 0) -> 3; rest(0, 3, 0) -> -3; rest(0, 0, 0) -> 0
                """);
        doc.says(quote, "the least ones by -1, and by the greatest", """
                row(1, 3); numbers(0, -128, -1, 127); rest(0, 0, 1) -> 0; rest(0, 0, 2) -> -1; rest(0, 2, 0) -> 127
                row(4, 3); numbers(1, MIN, -1, MAX); rest(1, 0, 1) -> 0; rest(1, 0, 2) -> -1; rest(1, 2, 0) -> MAX
                row(5, 3); numbers(2, LMIN, -1, LMAX); rest(2, 0, 1) -> 0; rest(2, 0, 2) -> -1; rest(2, 2, 0) -> LMAX
                row(3, 2); numbers(3, -32768, -1); rest(3, 0, 1) -> 0; row(2, 2); numbers(4, 65535, 256); rest(4, 0, 1) -> 255
                """);
        doc.says(quote, "truths", "row(0, 2); numbers(0, 0, 1); rest(0, 0, 1) -> 0; rest(0, 1, 1) -> 0; rest(0, 1, 0) = ZERO; rest(0, 0, 0) = ZERO");
        for (int kind = 6; kind <= 7; kind++) {
            doc.says(quote, "the sign of i, also of a zero, KIND " + kind, ofBoth("""
                    row(K, 8); numbers(0, 5.5t, -5.5t, 2.0t, -2.0t, 4.0t, -4.0t, 0.0t, -0.0t)
                    rest(0, 0, 2) -> 1.5t; rest(0, 1, 2) -> -1.5t; rest(0, 0, 3) -> 1.5t; rest(0, 1, 3) -> -1.5t
                    rest(0, 4, 3) -> 0; rest(0, 5, 2) -> -0.0t; rest(0, 6, 3) -> 0; rest(0, 7, 2) -> -0.0t; rest(0, 2, 4) -> 2.0t
                    """, kind));
            doc.says(quote, "by an endless one, by the least one, by itself, KIND " + kind, ofBoth("""
                    row(K, 6); numbers(0, ENDLESSt, -ENDLESSt, LEASTt, MOSTt, -3.0t, 3.0t)
                    rest(0, 4, 0) -> -3.0t; rest(0, 4, 1) -> -3.0t; rest(0, 3, 1) -> MOSTt; rest(0, 2, 0) -> LEASTt
                    rest(0, 3, 2) -> 0; rest(0, 4, 2) -> -0.0t; rest(0, 2, 3) -> LEASTt; rest(0, 2, 2) -> 0; rest(0, 5, 5) -> 0
                    rest(0, 4, 5) -> -0.0t
                    """, kind));
        }
        doc.says(quote, "where a rest is among the least ones", """
                row(6, 4); numbers(0, 0x00800000, 0x00000003, 0x00800001, 0x007FFFFF)
                rest(0, 0, 1) -> 2; rest(0, 2, 0) -> 1; rest(0, 0, 3) -> 1; rest(0, 3, 1) -> 1
                row(7, 4); numbers(1, 0x0010000000000000, 0x0000000000000003, 0x0010000000000001, 0x000FFFFFFFFFFFFF)
                rest(1, 0, 1) -> 1; rest(1, 2, 0) -> 1; rest(1, 0, 3) -> 1; rest(1, 3, 1) -> 0
                """);
        doc.says(quote, "where a rest has its last bit alone, and where one bit is left above the least ones", """
                row(6, 4); numbers(0, 0x3F800001, 1.0f, 0x01000001, 0x01000000); rest(0, 0, 1) -> 0x34000000; rest(0, 2, 3) -> 2
                row(7, 4); numbers(1, 0x3FF0000000000001, 1.0d, 0x0020000000000001, 0x0020000000000000); rest(1, 0, 1) -> 0x3CB0000000000000
                rest(1, 2, 3) -> 2
                """);
        doc.says(quote, "the greatest by a small one", """
                row(6, 2); numbers(0, MOSTf, 3.0f); rest(0, 0, 1) -> 0; numbers(0, MOSTf, 11.0f); rest(0, 0, 1) -> 9.0f
                row(7, 2); numbers(1, MOSTd, 3.0d); rest(1, 0, 1) -> 2.0d; numbers(1, -MOSTd, 3.0d); rest(1, 0, 1) -> -2.0d
                """);
    }

    private static void restIsZero(Sentences doc) {
        String quote = "UNKNOWN; NULL; INDEX; ZERO: that is 0; floats, doubles: either is a GAP, or i is endless, too.";
        doc.says(quote, "by 0, of every KIND", """
                8 x row(@, 2)
                8 x put(@, 0, 1)
                8 x rest(@, 0, 1) = ZERO
                8 x rest(@, 1, 1) = ZERO
                8 x rest(@, 1, 0) = 0
                """);
        doc.says(quote, "by -0.0, GAPS, endless ones", """
                row(6, 6); numbers(0, 1.0f, -0.0f, GAPf, ENDLESSf, -ENDLESSf, 0.0f)
                rest(0, 0, 1) = ZERO; rest(0, 0, 5) = ZERO; rest(0, 0, 2) = ZERO; rest(0, 2, 0) = ZERO; rest(0, 2, 2) = ZERO
                rest(0, 3, 0) = ZERO; rest(0, 4, 0) = ZERO; rest(0, 3, 4) = ZERO; rest(0, 3, 1) = ZERO; rest(0, 4, 2) = ZERO
                rest(0, 2, 3) = ZERO; rest(0, 0, 3) = 0; rest(0, 1, 4) = 0
                """);
        doc.says(quote, "doubles, too", """
                row(7, 6); numbers(0, 1.0d, -0.0d, GAPd, ENDLESSd, -ENDLESSd, 0.0d)
                rest(0, 0, 1) = ZERO; rest(0, 0, 5) = ZERO; rest(0, 0, 2) = ZERO; rest(0, 2, 0) = ZERO; rest(0, 2, 2) = ZERO
                rest(0, 3, 0) = ZERO; rest(0, 4, 0) = ZERO; rest(0, 3, 4) = ZERO; rest(0, 3, 1) = ZERO; rest(0, 4, 2) = ZERO
                rest(0, 2, 3) = ZERO; rest(0, 0, 3) = 0; rest(0, 1, 4) = 0
                """);
        doc.says(quote, "each place just outside, ahead of ZERO", """
                row(4, 2); row(4, 0); rest(0, -1, 0) = INDEX; rest(0, 2, 0) = INDEX; rest(0, 0, -1) = INDEX; rest(0, 0, 2) = INDEX
                rest(0, MIN, 1) = INDEX; rest(0, 1, MAX) = INDEX; rest(1, 0, 0) = INDEX; row(6, 1); put(2, 0, GAPf); rest(2, 0, 1) = INDEX
                """);
        doc.says(quote, "NULL ahead of INDEX and ZERO, UNKNOWN ahead of all", """
                row(4, 2); lose(0); rest(0, 0, 1) = NULL; rest(0, 2, 0) = NULL; rest(0, 0, -1) = NULL
                rest(1, 0, 0) = UNKNOWN; rest(-1, 9, 9) = UNKNOWN; rest(MAX, 0, 0) = UNKNOWN; rest(MIN, -1, 0) = UNKNOWN
                """);
    }

    private static void most(Sentences doc) {
        doc.ofPromise(12);
        String quote = "SEEN becomes the WHOLE of the greatest (what = 0), the least (1) NUMBER that is no GAP (-0.0 is below 0.0);"
                + " what = 2: how many GAPS there are.";
        doc.says(quote, "one, and the first, the last, the middle one of more", """
                row(4, 1); numbers(0, -5); most(0, 0) -> -5; most(0, 1) -> -5; row(4, 3); numbers(1, 9, 5, -7); most(1, 0) -> 9; most(1, 1) -> -7
                numbers(1, -7, 9, 5); most(1, 0) -> 9; most(1, 1) -> -7; numbers(1, 5, -7, 9); most(1, 0) -> 9; most(1, 1) -> -7
                """);
        doc.says(quote, "all above 0, all below 0, the edges of the KIND", """
                row(5, 2); numbers(0, 3, 4); most(0, 1) -> 3; numbers(0, -3, -4); most(0, 0) -> -3; numbers(0, LMIN, LMAX)
                most(0, 0) -> LMAX; most(0, 1) -> LMIN
                row(2, 2); numbers(1, 65535, 1); most(1, 0) -> 65535; most(1, 1) -> 1; row(0, 2); numbers(2, 0, 1); most(2, 0) -> 1; most(2, 1) -> 0
                """);
        doc.says(quote, "-0.0 and 0.0, in either order", """
                row(6, 2); numbers(0, 0.0f, -0.0f); most(0, 0) -> 0; most(0, 1) -> -0.0f; numbers(0, -0.0f, 0.0f); most(0, 0) -> 0
                most(0, 1) -> -0.0f
                row(7, 2); numbers(1, 0.0d, -0.0d); most(1, 0) -> 0; most(1, 1) -> -0.0d; numbers(1, -0.0d, 0.0d); most(1, 0) -> 0
                most(1, 1) -> -0.0d
                row(7, 2); numbers(2, -0.0d, -LEASTd); most(2, 0) -> -0.0d; most(2, 1) -> -LEASTd
                """);
        doc.says(quote, "GAPS ahead, between, behind; endless ones are none", """
                row(6, 5); numbers(0, GAPf, -2.0f, GAPf, -1.0f, GAPf); most(0, 0) -> -1.0f; most(0, 1) -> -2.0f; most(0, 2) -> 3
                row(7, 4); numbers(1, GAPd, ENDLESSd, -ENDLESSd, GAPd); most(1, 0) -> ENDLESSd; most(1, 1) -> -ENDLESSd; most(1, 2) -> 2
                row(6, 2); numbers(2, GAPf, 5.0f); most(2, 1) -> 5.0f; most(2, 2) -> 1; numbers(2, GAPf, -5.0f); most(2, 0) -> -5.0f
                """);
        doc.says(quote, "no GAPS, 24 GAPS, none of nothing", """
                row(4, 0); most(0, 2) -> 0; row(7, 24); get(1, 0) -> 0; most(1, 2) -> 0
                24 x put(1, @, -1)
                most(1, 2) -> 24; row(5, 1); put(2, 0, GAPd); most(2, 2) -> 0; row(6, 0); most(3, 2) -> 0
                """);
        quote = "UNKNOWN; OUTSIDE: what; NULL; ZERO: 0, 1, and there is none.";
        doc.says(quote, "what 0 and 2, not -1 and 3", """
                row(4, 1); most(0, -1) = OUTSIDE; most(0, 0) = 0; most(0, 2) = 0; most(0, 3) = OUTSIDE; most(0, MIN) = OUTSIDE; most(0, MAX) = OUTSIDE
                """);
        doc.says(quote, "no NUMBERS, GAPS alone", """
                8 x row(@, 0)
                8 x most(@, 0) = ZERO
                8 x most(@, 1) = ZERO
                8 x most(@, 2) -> 0
                row(6, 2); numbers(8, GAPf, GAPf); most(8, 0) = ZERO; most(8, 1) = ZERO; most(8, 2) -> 2; put(8, 1, 0); most(8, 0) -> 0
                """);
        doc.says(quote, "OUTSIDE ahead of NULL and ZERO, NULL ahead of ZERO, UNKNOWN ahead of all", """
                row(4, 0); most(0, 3) = OUTSIDE; lose(0); most(0, 3) = OUTSIDE; most(0, -1) = OUTSIDE; most(0, 0) = NULL; most(0, 1) = NULL
                most(0, 2) = NULL
                most(1, 0) = UNKNOWN; most(1, 3) = UNKNOWN; most(-1, -1) = UNKNOWN; most(MAX, 0) = UNKNOWN; most(MIN, 9) = UNKNOWN
                """);
    }

    private static void seen(Sentences doc) {
        doc.ofPromise(13);
        doc.says("SEEN.", "each call that tells by it, and none else", """
                seen() = 0; row(5, 3); numbers(0, -9, 4, 4); get(0, 0) -> -9; compare(0, 0, 1) = 35; seen() = -9; shape(0, 0, 5) -> 9
                rest(0, 0, 1) -> -1; most(0, 1) -> -9; most(0, 2) -> 0; stream(); write(0, 0, 0); seen() = 0; house(); end(0); keep(0, 2^40, 0)
                find(0, 2^40) = 0; seen() = 0; list(0, 0) = 1 -> 2^40; read(0) = 1; take(0, 2^40) = 1; drop(0, 2^40) = 0; seen() = 2^40
                """);
    }
}
