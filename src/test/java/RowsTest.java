/** Promises 1 to 8 and 13: a new object, and rows. */
public final class RowsTest {
    private static final int[] KINDS = {0, 1, 2, 3, 4, 5, 6, 7};

    public static void main(String[] args) {
        newObject();
        rowsAreMade();
        newNumbersAre0();
        rowRefuses();
        loseTells();
        kindAndLength();
        putTellsByTheKind();
        putAndGetRefuse();
        copyMoves();
        copyRefuses();
        seenStays();
        Check.finish();
    }

    private static void newObject() {
        PackDesk x = new PackDesk();
        for (int what = 0; what <= 5; what++) Check.due("new: count(" + what + ")", x.count(what), 0);
        Check.due("new: seen()", x.seen(), 0);
        Check.due("new: finding()", x.finding(), 0);
        for (int f = 1; f <= 9; f++) Check.due("new: findings(" + f + ")", x.findings(f), 0);
        Check.due("new: digest()", x.digest(), ((19L * 31) * 31) * 31);
        Check.due("new: kind(0)", x.kind(0), PackDesk.UNKNOWN);
        Check.due("new: about(0, 0)", x.about(0, 0), PackDesk.UNKNOWN);
        Check.due("new: find(0, 0)", x.find(0, 0), PackDesk.UNKNOWN);
        Check.due("new: act(0, -1, 0)", x.act(0, -1, 0), PackDesk.UNKNOWN);
        Check.due("new: uses(0)", x.uses(0), 0);
    }

    private static void rowsAreMade() {
        PackDesk x = new PackDesk();
        for (int r = 0; r < 60; r++) {
            Check.due("row " + r, x.row(r % 8, r % 25), r);
            Check.due("kind " + r, x.kind(r), r % 8);
            Check.due("length " + r, x.length(r), r % 25);
        }
        Check.refuses(x, "row 61", () -> x.row(0, 0), PackDesk.FULL);
        Check.refuses(x, "kind of row 61", () -> x.kind(60), PackDesk.UNKNOWN);
        x.lose(3);
        Check.refuses(x, "row 61, when one is lost", () -> x.row(0, 0), PackDesk.FULL);
        Check.refuses(x, "row: OUTSIDE ahead of FULL", () -> x.row(8, 0), PackDesk.OUTSIDE);
        Check.refuses(x, "row: FULL ahead of SIZE", () -> x.row(0, -1), PackDesk.FULL);
    }

    private static void newNumbersAre0() {
        for (int kind : KINDS) {
            PackDesk x = new PackDesk();
            int r = x.row(kind, 24);
            for (int i = 0; i < 24; i++) Check.due("a new number", Check.whole(x, r, i), 0);
        }
    }

    private static void rowRefuses() {
        PackDesk x = new PackDesk();
        Check.refuses(x, "row(-1, 0)", () -> x.row(-1, 0), PackDesk.OUTSIDE);
        Check.refuses(x, "row(8, 0)", () -> x.row(8, 0), PackDesk.OUTSIDE);
        Check.refuses(x, "row(0, 25)", () -> x.row(0, 25), PackDesk.OUTSIDE);
        Check.refuses(x, "row(0, MAX)", () -> x.row(0, Integer.MAX_VALUE), PackDesk.OUTSIDE);
        Check.refuses(x, "row(0, -1)", () -> x.row(0, -1), Check.SIZE);
        Check.refuses(x, "row(0, MIN)", () -> x.row(0, Integer.MIN_VALUE), Check.SIZE);
        Check.refuses(x, "row(8, -1)", () -> x.row(8, -1), PackDesk.OUTSIDE);
        Check.due("row(7, 24)", x.row(7, 24), 0);
        Check.due("row(0, 0)", x.row(0, 0), 1);
    }

    private static void loseTells() {
        PackDesk x = new PackDesk();
        x.row(5, 7);
        x.row(5, 0);
        Check.due("lose(0)", x.lose(0), 7);
        Check.due("lose(1)", x.lose(1), 0);
        Check.refuses(x, "lose(0) again", () -> x.lose(0), Check.NULL);
        Check.refuses(x, "lose(-1)", () -> x.lose(-1), PackDesk.UNKNOWN);
        Check.refuses(x, "lose(2)", () -> x.lose(2), PackDesk.UNKNOWN);
        Check.due("count(0)", x.count(0), 2);
        Check.due("a number is not given twice", x.row(5, 7), 2);
    }

    private static void kindAndLength() {
        PackDesk x = new PackDesk();
        for (int kind : KINDS) x.row(kind, 3 * kind);
        for (int kind : KINDS) {
            Check.due("kind", x.kind(kind), kind);
            Check.due("length", x.length(kind), 3 * kind);
            x.lose(kind);
            Check.due("kind of a lost one", x.kind(kind), kind);
            Check.refuses(x, "length of a lost one", () -> x.length(kind), Check.NULL);
        }
        Check.refuses(x, "kind(8)", () -> x.kind(8), PackDesk.UNKNOWN);
        Check.refuses(x, "kind(-1)", () -> x.kind(-1), PackDesk.UNKNOWN);
        Check.refuses(x, "length(8)", () -> x.length(8), PackDesk.UNKNOWN);
        Check.refuses(x, "length(MIN)", () -> x.length(Integer.MIN_VALUE), PackDesk.UNKNOWN);
    }

    private static void tells(int kind, long word, long whole) {
        PackDesk x = new PackDesk();
        x.row(kind, 24);
        Check.due("put", x.put(0, 23, word), 0);
        Check.due("kind " + kind + ": what " + word + " tells", Check.whole(x, 0, 23), whole);
        Check.due("its neighbour", Check.whole(x, 0, 22), 0);
    }

    private static void putTellsByTheKind() {
        tells(0, 1, 1);
        tells(0, 2, 0);
        tells(0, -1, 1);
        tells(0, Long.MIN_VALUE, 0);
        tells(1, 127, 127);
        tells(1, 128, -128);
        tells(1, 0x1FF, -1);
        tells(2, 65535, 65535);
        tells(2, -1, 65535);
        tells(2, 65536, 0);
        tells(3, 32768, -32768);
        tells(3, 65535, -1);
        tells(4, 1L << 31, Integer.MIN_VALUE);
        tells(4, 1L << 32, 0);
        tells(5, Long.MIN_VALUE, Long.MIN_VALUE);
        tells(5, Long.MAX_VALUE, Long.MAX_VALUE);
        tells(6, 0x3F800000L, 0x3F800000L);
        tells(6, 0xBF800000L, 0xFFFFFFFFBF800000L);
        tells(6, 0x1234567880000000L, Integer.MIN_VALUE);
        tells(6, 0x7F800000L, 0x7F800000L);
        tells(6, 0xFF800000L, 0xFFFFFFFFFF800000L);
        tells(6, 0x7F800001L, 0x7FC00000L);
        tells(6, 0xFFC00000L, 0x7FC00000L);
        tells(6, -1, 0x7FC00000L);
        tells(7, 0x7FF0000000000000L, 0x7FF0000000000000L);
        tells(7, 0xFFF0000000000000L, 0xFFF0000000000000L);
        tells(7, 0x7FF0000000000001L, 0x7FF8000000000000L);
        tells(7, 0xFFF8000000000000L, 0x7FF8000000000000L);
        tells(7, -1, 0x7FF8000000000000L);
        tells(7, Long.MIN_VALUE, Long.MIN_VALUE);
    }

    private static void putAndGetRefuse() {
        for (int i : new int[] {-1, 3, Integer.MAX_VALUE, Integer.MIN_VALUE}) {
            PackDesk x = new PackDesk();
            x.row(4, 3);
            x.row(4, 3);
            x.row(4, 3);
            x.lose(2);
            Check.refuses(x, "put(0, " + i + ")", () -> x.put(0, i, 1), Check.INDEX);
            Check.refuses(x, "get(0, " + i + ")", () -> x.get(0, i), Check.INDEX);
            Check.refuses(x, "put of a lost one", () -> x.put(2, i, 1), Check.NULL);
            Check.refuses(x, "get of a lost one", () -> x.get(2, i), Check.NULL);
            Check.refuses(x, "put of none", () -> x.put(3, i, 1), PackDesk.UNKNOWN);
            Check.refuses(x, "get of none", () -> x.get(-1, i), PackDesk.UNKNOWN);
        }
        PackDesk x = new PackDesk();
        x.row(4, 0);
        Check.refuses(x, "put(0, 0)", () -> x.put(0, 0, 1), Check.INDEX);
        Check.refuses(x, "get(0, 0)", () -> x.get(0, 0), Check.INDEX);
    }

    private static void dueRow(PackDesk x, String what, int r, long... wholes) {
        Check.due(what + ": length", x.length(r), wholes.length);
        for (int i = 0; i < wholes.length; i++) Check.due(what + ", number " + i, Check.whole(x, r, i), wholes[i]);
    }

    private static void copyMoves() {
        PackDesk x = new PackDesk();
        Check.row(x, 4, 1, 2, 3, 4, 5);
        Check.row(x, 4, 9, 9, 9);
        Check.due("copy to another", x.copy(0, 1, 1, 0, 2), 0);
        dueRow(x, "copy to another", 1, 2, 3, 9);
        Check.due("copy up in itself", x.copy(0, 0, 0, 1, 4), 0);
        dueRow(x, "copy up in itself", 0, 1, 1, 2, 3, 4);
        Check.due("copy down in itself", x.copy(0, 2, 0, 0, 3), 0);
        dueRow(x, "copy down in itself", 0, 2, 3, 4, 3, 4);
        Check.due("copy of none at both ends", x.copy(0, 5, 1, 3, 0), 0);
        Check.due("copy of all", x.copy(1, 0, 0, 2, 3), 0);
        dueRow(x, "copy of all", 0, 2, 3, 2, 3, 9);
        dueRow(x, "what was copied stays", 1, 2, 3, 9);
    }

    /** The ROWS 0 and 1 are ints, 2 is of longs, 3 is of ints and LOST. */
    private static PackDesk rowsToCopy() {
        PackDesk x = new PackDesk();
        Check.row(x, 4, 1, 2, 3);
        Check.row(x, 4, 1, 2, 3);
        Check.row(x, 5, 1, 2, 3);
        x.row(4, 3);
        x.lose(3);
        return x;
    }

    private static void copyRefuses() {
        int max = Integer.MAX_VALUE, min = Integer.MIN_VALUE;
        int[][] outside = {
            {-1, 0, 1}, {0, -1, 1}, {0, 0, -1}, {0, 0, 4}, {1, 0, 3}, {0, 1, 3}, {4, 0, 0}, {0, 4, 0}, {3, 0, 1},
            {max, 0, max}, {0, max, 1}, {1, 0, max}, {0, 1, max}, {min, 0, 1}, {0, min, 1}, {0, 0, min}, {max, max, max}
        };
        for (int[] o : outside) {
            PackDesk y = rowsToCopy();
            Check.refuses(y, "copy beyond", () -> y.copy(0, o[0], 1, o[1], o[2]), Check.INDEX);
        }
        PackDesk x = rowsToCopy();
        Check.refuses(x, "copy of none", () -> x.copy(4, 0, 0, 0, 1), PackDesk.UNKNOWN);
        Check.refuses(x, "copy to none", () -> x.copy(0, 0, -1, 0, 1), PackDesk.UNKNOWN);
        Check.refuses(x, "copy to another kind", () -> x.copy(0, 0, 2, 0, 1), Check.CAST);
        Check.refuses(x, "copy of a lost one to another kind", () -> x.copy(3, 0, 2, 0, 1), Check.CAST);
        Check.refuses(x, "copy to a lost one of another kind", () -> x.copy(2, -1, 3, 0, 1), Check.CAST);
        Check.refuses(x, "copy of a lost one", () -> x.copy(3, -1, 0, 0, 1), Check.NULL);
        Check.refuses(x, "copy to a lost one", () -> x.copy(0, 0, 3, 9, 1), Check.NULL);
        Check.refuses(x, "copy: UNKNOWN ahead of CAST", () -> x.copy(2, 0, 4, 9, 1), PackDesk.UNKNOWN);
    }

    private static void seenStays() {
        PackDesk x = new PackDesk();
        Check.row(x, 5, 77, 78);
        x.get(0, 1);
        Check.due("seen", x.seen(), 78);
        x.put(0, 1, 5);
        x.get(0, 9);
        x.get(9, 0);
        Check.due("seen stays", x.seen(), 78);
        x.get(0, 1);
        Check.due("seen anew", x.seen(), 5);
    }
}
