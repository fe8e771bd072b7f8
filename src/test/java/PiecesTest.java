/** Promises 24 and 25: read and pieces. */
public final class PiecesTest {
    public static void main(String[] args) {
        readGoesOn();
        readFindsEndAndShort();
        readFindsHarmedHead();
        readFindsHarmedSum();
        readFindsWhatNoCoderMade();
        readKeepsItsOrder();
        readIsFull();
        everyHarmIsFound();
        piecesCount();
        Check.finish();
    }

    private static void readGoesOn() {
        PackDesk x = new PackDesk();
        Check.row(x, 1, 5, -5);
        Check.row(x, 7, 1);
        int s = x.stream();
        x.write(s, 0, 0);
        x.write(s, 1, 4);
        Check.due("read", x.read(s), 2);
        Check.due("the place", x.about(s, 1), 9);
        x.end(s);
        Check.due("read of an ended one", x.read(s), 3);
        Check.refuses(x, "read at the end", () -> x.read(s), Check.ENDS);
        Check.due("kind", x.kind(2), 1);
        Check.due("number 1", Check.whole(x, 2, 1), -5);
        Check.due("kind", x.kind(3), 7);
        Check.due("number 0", Check.whole(x, 3, 0), 1);
        x.seek(s, 9);
        Check.due("read from the second one", x.read(s), 4);
        Check.due("kind", x.kind(4), 7);
        x.put(4, 0, 2);
        Check.due("each row has its own numbers", Check.whole(x, 3, 0), 1);
        Check.refuses(x, "read of none", () -> x.read(1), PackDesk.UNKNOWN);
        Check.refuses(x, "read of none", () -> x.read(-1), PackDesk.UNKNOWN);
    }

    private static void reads(String what, int want, int... bytes) {
        PackDesk x = new PackDesk();
        int s = Check.stream(x, bytes);
        if (want < 0) {
            Check.refuses(x, what, () -> x.read(s), want);
            Check.due(what + ": pieces", x.pieces(s), 0);
        } else {
            Check.due(what, x.read(s), want);
            Check.due(what + ": pieces", x.pieces(s), 1);
        }
    }

    private static void readFindsEndAndShort() {
        reads("nothing", Check.ENDS);
        reads("one byte", Check.SHORT, 160);
        reads("six bytes", Check.SHORT, 160, 0, 0, 0, 0, 0);
        reads("six wrong bytes", Check.SHORT, 1, 1, 1, 1, 1, 1);
        int[] whole = Check.piece(160, 4, 2, 2, 4);
        reads("a whole piece", 0, whole);
        for (int n = 1; n < whole.length; n++) reads(n + " bytes of a piece", Check.SHORT, java.util.Arrays.copyOf(whole, n));
        reads("a piece of 256 bytes that has 1", Check.SHORT, 160, 4, 2, 0, 1, 2, 3, 4);
        reads("a wrong piece that is short", Check.SHORT, 1, 99, 99, 255, 255, 0, 0);
        reads("an empty row", 0, Check.piece(160, 4, 0));
        PackDesk x = new PackDesk();
        int s = Check.stream(x, whole);
        x.seek(s, 3);
        Check.refuses(x, "fewer than 7 from the place on", () -> x.read(s), Check.SHORT);
    }

    private static void readFindsHarmedHead() {
        reads("mark 159", Check.HARMED, Check.piece(159, 4, 0));
        reads("mark 165", Check.HARMED, Check.piece(165, 4, 0, 1));
        reads("mark 164", 0, Check.piece(164, 4, 0, 1));
        reads("mark 0", Check.HARMED, Check.piece(0, 4, 0));
        reads("kind 8", Check.HARMED, Check.piece(160, 8, 0));
        reads("kind 255", Check.HARMED, Check.piece(160, 255, 0));
        reads("kind 7", 0, Check.piece(160, 7, 0));
        reads("24 numbers", 0, Check.piece(163, 4, 24, 0, 46));
        reads("25 numbers", Check.HARMED, Check.piece(163, 4, 25, 0, 48));
        reads("255 numbers", Check.HARMED, Check.piece(163, 4, 255, 0, 48));
    }

    private static void readFindsHarmedSum() {
        int[] whole = Check.piece(160, 4, 2, 2, 4);
        for (int i = 5; i < whole.length; i++) {
            int[] harmed = whole.clone();
            harmed[i] ^= 1;
            reads("byte " + i + " is another", Check.HARMED, harmed);
        }
    }

    private static void readFindsWhatNoCoderMade() {
        for (int mark = 160; mark <= 162; mark++) {
            reads("a byte too few", Check.HARMED, Check.piece(mark, 4, 2, 2));
            reads("a byte too many", Check.HARMED, Check.piece(mark, 4, 2, 2, 4, 6));
            reads("no numbers, one byte", Check.HARMED, Check.piece(mark, 4, 0, 0));
            reads("one number, no byte", Check.HARMED, Check.piece(mark, 4, 1));
            reads("more bytes than need be", Check.HARMED, Check.piece(mark, 4, 1, 130, 0));
            reads("the last byte says there is more", Check.HARMED, Check.piece(mark, 4, 1, 130));
            reads("ten bytes", 0, Check.piece(mark, 5, 1, 255, 255, 255, 255, 255, 255, 255, 255, 255, 1));
            reads("ten bytes, 65 bits", Check.HARMED, Check.piece(mark, 5, 1, 255, 255, 255, 255, 255, 255, 255, 255, 255, 3));
            reads("eleven bytes", Check.HARMED, Check.piece(mark, 5, 1, 255, 255, 255, 255, 255, 255, 255, 255, 255, 129, 1));
            reads("eleven bytes, the last one 0", Check.HARMED, Check.piece(mark, 5, 1, 255, 255, 255, 255, 255, 255, 255, 255, 255, 129, 0));
        }
        reads("truth 2", Check.HARMED, Check.piece(160, 0, 1, 4));
        reads("truth -1", Check.HARMED, Check.piece(160, 0, 1, 1));
        reads("byte 128", Check.HARMED, Check.piece(160, 1, 1, 128, 2));
        reads("byte -128", 0, Check.piece(160, 1, 1, 255, 1));
        reads("char -1", Check.HARMED, Check.piece(160, 2, 1, 1));
        reads("char 65536", Check.HARMED, Check.piece(160, 2, 1, 128, 128, 8));
        reads("short 32768", Check.HARMED, Check.piece(160, 3, 1, 128, 128, 4));
        reads("int 2 to the 31st", Check.HARMED, Check.piece(160, 4, 1, 128, 128, 128, 128, 16));
        reads("float 2 to the 31st", Check.HARMED, Check.piece(160, 6, 1, 128, 128, 128, 128, 16));
        reads("the float gap", 0, Check.piece(160, 6, 1, 128, 128, 128, 252, 15));
        reads("another float gap", Check.HARMED, Check.piece(160, 6, 1, 130, 128, 128, 252, 15));
        reads("the double gap", 0, Check.piece(160, 7, 1, 128, 128, 128, 128, 128, 128, 128, 248, 255, 1));
        reads("another double gap", Check.HARMED, Check.piece(160, 7, 1, 130, 128, 128, 128, 128, 128, 128, 248, 255, 1));
        reads("steps go out of the kind", Check.HARMED, Check.piece(161, 1, 2, 254, 1, 2));
        reads("steps of steps go out of the kind", Check.HARMED, Check.piece(162, 0, 3, 0, 2, 0));
        reads("runs", 0, Check.piece(163, 4, 3, 14, 2, 16, 0));
        reads("a run that could be longer", Check.HARMED, Check.piece(163, 4, 3, 14, 2, 14, 0));
        reads("a run below 0", Check.HARMED, Check.piece(163, 4, 1, 14, 1));
        reads("a run that is too long", Check.HARMED, Check.piece(163, 4, 3, 14, 6));
        reads("a run of 25 of 24", Check.HARMED, Check.piece(163, 4, 24, 0, 48));
        reads("runs of 25 of 24", Check.HARMED, Check.piece(163, 4, 24, 0, 44, 2, 2));
        reads("runs that are too short", Check.HARMED, Check.piece(163, 4, 3, 14, 2));
        reads("a run without its length", Check.HARMED, Check.piece(163, 4, 3, 14));
        reads("a byte behind the runs", Check.HARMED, Check.piece(163, 4, 3, 14, 4, 0));
        reads("a run's length in more bytes", Check.HARMED, Check.piece(163, 4, 3, 14, 132, 0));
        reads("an endless run", Check.HARMED, Check.piece(163, 4, 3, 14, 254, 255, 255, 255, 255, 255, 255, 255, 255, 1));
        reads("no runs, some bytes", Check.HARMED, Check.piece(163, 4, 0, 14, 0));
        reads("wide", 0, Check.piece(164, 4, 2, 1, 5, 250));
        reads("wide, no w", Check.HARMED, Check.piece(164, 4, 0));
        reads("wide 0", Check.HARMED, Check.piece(164, 4, 2, 0));
        reads("wide 9", Check.HARMED, Check.piece(164, 5, 1, 9, 0, 0, 0, 0, 0, 0, 0, 0, 1));
        reads("wide 255", Check.HARMED, Check.piece(164, 5, 0, 255));
        reads("wide, w is not the least", Check.HARMED, Check.piece(164, 4, 1, 2, 5, 0));
        reads("wide, w is not the least, below 0", Check.HARMED, Check.piece(164, 4, 1, 2, 128, 255));
        reads("wide, one of two needs w", 0, Check.piece(164, 4, 2, 2, 5, 0, 0, 1));
        reads("wide of no numbers, w is 2", Check.HARMED, Check.piece(164, 4, 0, 2));
        reads("wide, a byte too few", Check.HARMED, Check.piece(164, 4, 2, 2, 0, 1, 0));
        reads("wide, a byte too many", Check.HARMED, Check.piece(164, 4, 1, 1, 5, 5));
        reads("wide goes out of the kind", Check.HARMED, Check.piece(164, 1, 2, 1, 127, 1));
        reads("wide 8", 0, Check.piece(164, 5, 1, 8, 0, 0, 0, 0, 0, 0, 0, 128));
    }

    private static void readKeepsItsOrder() {
        PackDesk x = new PackDesk();
        for (int k = 0; k < 60; k++) x.row(0, 0);
        int none = x.stream();
        int tooFew = Check.stream(x, 160, 0, 0, 0, 0, 0);
        int harmed = Check.stream(x, Check.piece(160, 9, 0));
        int fine = Check.stream(x, Check.piece(160, 4, 0));
        Check.refuses(x, "read: ENDS ahead of FULL", () -> x.read(none), Check.ENDS);
        Check.refuses(x, "read: SHORT ahead of FULL", () -> x.read(tooFew), Check.SHORT);
        Check.refuses(x, "read: HARMED ahead of FULL", () -> x.read(harmed), Check.HARMED);
        Check.refuses(x, "read, row 61", () -> x.read(fine), PackDesk.FULL);
        Check.due("pieces, when there are 60 rows", x.pieces(fine), 1);
        Check.due("pieces, harmed", x.pieces(harmed), 0);
        Check.due("pieces of none", x.pieces(9), PackDesk.UNKNOWN);
    }

    private static void readIsFull() {
        PackDesk x = new PackDesk();
        int s = Check.stream(x, Check.piece(160, 4, 1, 2));
        for (int r = 0; r < 60; r++) {
            x.seek(s, 0);
            Check.due("read", x.read(s), r);
        }
        x.seek(s, 0);
        Check.refuses(x, "read, row 61", () -> x.read(s), PackDesk.FULL);
        Check.due("the place stays", x.about(s, 1), 0);
    }

    /** One bit of a PIECE turned round is found by read(), or makes the PIECE longer than the STREAM. */
    private static void everyHarmIsFound() {
        int[] whole = Check.piece(161, 4, 3, 20, 4, 5);
        for (int i = 0; i < whole.length; i++) {
            for (int bit = 0; bit < 8; bit++) {
                PackDesk x = new PackDesk();
                int s = Check.stream(x, whole);
                x.harm(s, i, 1 << bit);
                int answer = x.read(s);
                Check.holds("a harmed bit is found", answer == Check.HARMED || (i == 3 || i == 4) && answer == Check.SHORT);
                x.harm(s, i, 1 << bit);
                Check.due("mended, it can be read", x.read(s), 0);
            }
        }
    }

    private static void piecesCount() {
        PackDesk x = new PackDesk();
        int[] one = Check.piece(160, 4, 1, 2), empty = Check.piece(160, 4, 0);
        int s = Check.stream(x, Check.joined(one, empty, one));
        Check.due("pieces", x.pieces(s), 3);
        x.seek(s, 15);
        long digest = x.digest();
        Check.due("pieces, whatever the place", x.pieces(s), 3);
        Check.due("nothing changes", x.digest(), digest);
        x.add(s, 160);
        Check.due("pieces and a byte", x.pieces(s), 3);
        x.harm(s, 9, 4);
        Check.due("the second one is harmed", x.pieces(s), 1);
        x.harm(s, 0, 128);
        Check.due("the first one is harmed", x.pieces(s), 0);
        Check.due("pieces finds nothing", x.finding(), 0);
        for (int f = 1; f <= 9; f++) Check.due("pieces finds nothing", x.findings(f), 0);
        int full = x.stream();
        int r = x.row(0, 0);
        for (int k = 1; k <= 57; k++) Check.due("write", x.write(full, r, 0), 7 * k);
        Check.due("57 pieces", x.pieces(full), 57);
        Check.due("pieces of nothing", x.pieces(x.stream()), 0);
        Check.refuses(x, "pieces of none", () -> x.pieces(-1), PackDesk.UNKNOWN);
    }
}
