import java.util.Random;

/** Promises 15 to 17: write, cost, best, and the CODERS behind them. */
public final class CodersTest {
    private static final long MIN = Long.MIN_VALUE, MAX = Long.MAX_VALUE;

    public static void main(String[] args) {
        plain();
        steps();
        twice();
        runs();
        wide();
        pieceAsWritten();
        writeRefuses();
        writeFillsToTheLastByte();
        costRefuses();
        bestChooses();
        everyRowComesBack();
        Check.finish();
    }

    /** The CODER makes these bytes, they cost so many, and they are read again. */
    private static void makes(int coder, int kind, long[] words, int... made) {
        PackDesk x = new PackDesk();
        int r = Check.row(x, kind, words);
        int s = x.stream();
        String what = "coder " + coder + ", kind " + kind;
        Check.due(what + ": cost", x.cost(r, coder), made.length);
        Check.due(what + ": write", x.write(s, r, coder), made.length + 7);
        Check.dueBytes(what, Check.bytes(x, s), Check.piece(160 + coder, kind, words.length, made));
        int again = x.read(s);
        Check.due(what + ": read", again, r + 1);
        Check.due(what + ": kind", x.kind(again), kind);
        Check.due(what + ": length", x.length(again), words.length);
        for (int i = 0; i < words.length; i++) Check.due(what + ": number " + i, Check.whole(x, again, i), Check.whole(x, r, i));
    }

    private static long[] words(long... words) {
        return words;
    }

    private static void plain() {
        makes(0, 4, words());
        makes(0, 4, words(0, 1, -1, 63, -64, 64, -65), 0, 2, 1, 126, 127, 128, 1, 129, 1);
        makes(0, 5, words(MIN), 255, 255, 255, 255, 255, 255, 255, 255, 255, 1);
        makes(0, 5, words(MAX), 254, 255, 255, 255, 255, 255, 255, 255, 255, 1);
        makes(0, 0, words(1, 0), 2, 0);
        makes(0, 2, words(65535), 254, 255, 7);
        makes(0, 6, words(0x80000000L), 255, 255, 255, 255, 15);
        makes(0, 6, words(-1), 128, 128, 128, 252, 15);
        makes(0, 7, words(-1), 128, 128, 128, 128, 128, 128, 128, 248, 255, 1);
    }

    private static void steps() {
        makes(1, 4, words());
        makes(1, 4, words(10, 12, 12, 9), 20, 4, 0, 5);
        makes(1, 5, words(MAX, MIN), 254, 255, 255, 255, 255, 255, 255, 255, 255, 1, 2);
        makes(1, 1, words(127, -128), 254, 1, 253, 3);
        makes(1, 2, words(0, 65535, 0), 0, 254, 255, 7, 253, 255, 7);
    }

    private static void twice() {
        makes(2, 4, words());
        makes(2, 4, words(10, 12, 14, 17), 20, 15, 0, 2);
        makes(2, 3, words(5), 10);
        makes(2, 5, words(MIN, MAX, MIN), 255, 255, 255, 255, 255, 255, 255, 255, 255, 1,
                254, 255, 255, 255, 255, 255, 255, 255, 255, 1, 4);
    }

    private static void runs() {
        makes(3, 4, words());
        makes(3, 4, words(7), 14, 0);
        makes(3, 4, words(7, 7, 7, -1, 7), 14, 4, 1, 0, 14, 0);
        makes(3, 0, new long[24], 0, 46);
        makes(3, 6, words(0, 0x80000000L, -1, -1), 0, 0, 255, 255, 255, 255, 15, 0, 128, 128, 128, 252, 15, 2);
    }

    private static void wide() {
        makes(4, 4, words(), 1);
        makes(4, 4, words(0), 1, 0);
        makes(4, 4, words(-128, -1), 1, 128, 127);
        makes(4, 4, words(128), 2, 128, 0);
        makes(4, 4, words(-129), 2, 127, 255);
        makes(4, 4, words(1, 32768), 2, 1, 0, 255, 127);
        makes(4, 4, words(0, 32768), 3, 0, 0, 0, 0, 128, 0);
        makes(4, 5, words((1L << 55) - 1), 7, 255, 255, 255, 255, 255, 255, 127);
        makes(4, 5, words(1L << 55), 8, 0, 0, 0, 0, 0, 0, 128, 0);
        makes(4, 5, words(-(1L << 55)), 7, 0, 0, 0, 0, 0, 0, 128);
        makes(4, 5, words(MIN, MAX), 8, 0, 0, 0, 0, 0, 0, 0, 128, 255, 255, 255, 255, 255, 255, 255, 255);
        makes(4, 4, words(Integer.MIN_VALUE, 0), 5, 0, 0, 0, 128, 255, 0, 0, 0, 128, 0);
    }

    private static void pieceAsWritten() {
        PackDesk x = new PackDesk();
        int r = Check.row(x, 3, 1);
        int s = Check.stream(x, 9);
        Check.due("write behind a byte", x.write(s, r, 0), 9);
        int sum = Check.sum(160, 3, 1, 1, 0, 2);
        Check.dueBytes("the piece", Check.bytes(x, s), 9, 160, 3, 1, 1, 0, 2, sum % 256, sum / 256);
        long[] long24 = new long[24];
        for (int i = 0; i < 24; i++) long24[i] = i % 2 == 0 ? MIN : MAX;
        int large = Check.row(x, 5, long24);
        int t = x.stream();
        Check.due("write of 264 bytes", x.write(t, large, 3), 271);
        Check.due("the lower byte of 264", x.at(t, 3), 8);
        Check.due("the higher byte of 264", x.at(t, 4), 1);
        Check.due("PLACE stays", x.about(t, 1), 0);
    }

    private static void writeRefuses() {
        PackDesk x = new PackDesk();
        Check.row(x, 4, 1, 2);
        x.row(4, 2);
        x.lose(1);
        x.stream();
        Check.ended(x, 1);
        Check.refuses(x, "write(2, 0, 0)", () -> x.write(2, 0, 9), PackDesk.UNKNOWN);
        Check.refuses(x, "write(-1, 0, 0)", () -> x.write(-1, 0, 0), PackDesk.UNKNOWN);
        Check.refuses(x, "write(0, 2, 0)", () -> x.write(0, 2, 9), PackDesk.UNKNOWN);
        Check.refuses(x, "write(1, -1, 0)", () -> x.write(1, -1, 0), PackDesk.UNKNOWN);
        Check.refuses(x, "write: OUTSIDE ahead of STATE", () -> x.write(1, 1, 5), PackDesk.OUTSIDE);
        Check.refuses(x, "write by coder -1", () -> x.write(0, 0, -1), PackDesk.OUTSIDE);
        Check.refuses(x, "write: STATE ahead of NULL", () -> x.write(1, 1, 0), PackDesk.STATE);
        Check.refuses(x, "write to an ended one", () -> x.write(1, 0, 0), PackDesk.STATE);
        Check.refuses(x, "write of a lost one", () -> x.write(0, 1, 0), Check.NULL);
    }

    private static void writeFillsToTheLastByte() {
        PackDesk x = new PackDesk();
        Check.row(x, 4, 1);
        Check.row(x, 4, 64);
        x.row(4, 1);
        x.lose(2);
        int s = x.stream();
        x.row(4, 0);
        for (int k = 1; k <= 56; k++) Check.due("write", x.write(s, 3, 0), 7 * k);
        Check.refuses(x, "write of 9 bytes behind 392", () -> x.write(s, 1, 0), PackDesk.FULL);
        Check.refuses(x, "write: NULL ahead of FULL", () -> x.write(s, 2, 0), Check.NULL);
        Check.due("write of 8 bytes behind 392", x.write(s, 0, 0), 400);
        Check.refuses(x, "write behind 400", () -> x.write(s, 0, 0), PackDesk.FULL);
        x.end(s);
        Check.refuses(x, "write: STATE ahead of FULL", () -> x.write(s, 0, 0), PackDesk.STATE);
    }

    private static void costRefuses() {
        PackDesk x = new PackDesk();
        x.row(4, 2);
        x.row(4, 2);
        x.lose(1);
        Check.refuses(x, "cost of none", () -> x.cost(2, 9), PackDesk.UNKNOWN);
        Check.refuses(x, "cost by coder 5", () -> x.cost(0, 5), PackDesk.OUTSIDE);
        Check.refuses(x, "cost by coder -1", () -> x.cost(1, -1), PackDesk.OUTSIDE);
        Check.refuses(x, "cost of a lost one", () -> x.cost(1, 0), Check.NULL);
        Check.refuses(x, "best of none", () -> x.best(-1), PackDesk.UNKNOWN);
        Check.refuses(x, "best of none", () -> x.best(2), PackDesk.UNKNOWN);
        Check.refuses(x, "best of a lost one", () -> x.best(1), Check.NULL);
    }

    private static void best(int want, int kind, long... words) {
        PackDesk x = new PackDesk();
        int r = Check.row(x, kind, words);
        Check.due("the best coder", x.best(r), want);
        for (int coder = 0; coder <= 4; coder++) {
            Check.holds("none is better", x.cost(r, coder) > x.cost(r, want) || x.cost(r, coder) == x.cost(r, want) && coder >= want);
        }
    }

    private static void bestChooses() {
        best(0, 4);
        best(0, 4, 5);
        best(0, 4, 1, 2);
        best(1, 4, 1000, 1001, 1003, 1002);
        best(2, 4, 1000, 2000, 3000, 4000);
        best(3, 4, 1000, 1000, 1000, 5, 5, 5, 5);
        best(4, 4, 100, 200, 300, 200, 100, 200, 300, 200);
    }

    private static void everyRowComesBack() {
        Random random = new Random(15);
        for (int k = 0; k < 4000; k++) {
            PackDesk x = new PackDesk();
            int kind = random.nextInt(8), n = random.nextInt(25), coder = random.nextInt(5), small = random.nextInt(64);
            long[] words = new long[n];
            for (int i = 0; i < n; i++) words[i] = i > 0 && random.nextInt(3) == 0 ? words[i - 1] : random.nextLong() >> small;
            int r = Check.row(x, kind, words);
            int s = x.stream();
            int size = x.write(s, r, coder);
            Check.due("cost is what write makes", x.cost(r, coder), size - 7);
            int again = x.read(s);
            Check.due("read", again, 1);
            for (int i = 0; i < n; i++) Check.due("number " + i, Check.whole(x, again, i), Check.whole(x, r, i));
            Check.due("PLACE is the end", x.about(s, 1), size);
            if (Check.wrong() > 20) return;
        }
    }
}
