/** Promises 14 and 18 to 23: streams and their bytes. */
public final class StreamsTest {
    public static void main(String[] args) {
        streamsAreMade();
        addAppends();
        addFills();
        endEnds();
        aboutTells();
        atTells();
        harmChanges();
        seekMoves();
        Check.finish();
    }

    private static void streamsAreMade() {
        PackDesk x = new PackDesk();
        for (int s = 0; s < 24; s++) {
            Check.due("stream " + s, x.stream(), s);
            Check.due("it has no bytes", x.about(s, 0), 0);
            Check.due("its place", x.about(s, 1), 0);
            Check.due("it is open", x.about(s, 2), 0);
            Check.due("its sum", x.about(s, 3), 0);
        }
        Check.refuses(x, "stream 25", () -> x.stream(), PackDesk.FULL);
        Check.refuses(x, "about stream 25", () -> x.about(24, 0), PackDesk.UNKNOWN);
        Check.due("count(1)", x.count(1), 24);
    }

    private static void addAppends() {
        PackDesk x = new PackDesk();
        int s = x.stream();
        int[] given = {0, 255, 256, -1, 0x1234, Integer.MIN_VALUE, 128};
        int[] kept = {0, 255, 0, 255, 0x34, 0, 128};
        for (int i = 0; i < given.length; i++) Check.due("add", x.add(s, given[i]), i + 1);
        Check.dueBytes("the bytes", Check.bytes(x, s), kept);
        Check.due("the sum", x.about(s, 3), Check.sum(kept));
        Check.refuses(x, "add to none", () -> x.add(1, 1), PackDesk.UNKNOWN);
        Check.refuses(x, "add to none", () -> x.add(-1, 1), PackDesk.UNKNOWN);
    }

    private static void addFills() {
        PackDesk x = new PackDesk();
        int s = x.stream();
        for (int n = 1; n <= 400; n++) Check.due("add", x.add(s, n), n);
        Check.refuses(x, "add, byte 401", () -> x.add(s, 1), PackDesk.FULL);
        Check.due("bytes", x.about(s, 0), 400);
        x.end(s);
        Check.refuses(x, "add: STATE ahead of FULL", () -> x.add(s, 1), PackDesk.STATE);
    }

    private static void endEnds() {
        PackDesk x = new PackDesk();
        int s = Check.stream(x, 1, 2, 3);
        int empty = x.stream();
        Check.due("end", x.end(s), 3);
        Check.due("end of an empty one", x.end(empty), 0);
        Check.due("it is ended", x.about(s, 2), 1);
        Check.refuses(x, "end again", () -> x.end(s), PackDesk.STATE);
        Check.refuses(x, "end of none", () -> x.end(2), PackDesk.UNKNOWN);
        Check.refuses(x, "end of none", () -> x.end(Integer.MIN_VALUE), PackDesk.UNKNOWN);
        Check.refuses(x, "add to an ended one", () -> x.add(s, 1), PackDesk.STATE);
    }

    private static void aboutTells() {
        PackDesk x = new PackDesk();
        int s = Check.stream(x, 200, 201, 202);
        x.seek(s, 2);
        Check.due("about 0", x.about(s, 0), 3);
        Check.due("about 1", x.about(s, 1), 2);
        Check.due("about 2", x.about(s, 2), 0);
        Check.due("about 3", x.about(s, 3), ((200 * 31 + 201) * 31 + 202) % 65536);
        x.end(s);
        Check.due("about 2", x.about(s, 2), 1);
        Check.refuses(x, "about 4", () -> x.about(s, 4), PackDesk.OUTSIDE);
        Check.refuses(x, "about -1", () -> x.about(s, -1), PackDesk.OUTSIDE);
        Check.refuses(x, "about none", () -> x.about(1, 4), PackDesk.UNKNOWN);
    }

    private static void atTells() {
        PackDesk x = new PackDesk();
        int s = Check.stream(x, 5, 255);
        Check.due("at 0", x.at(s, 0), 5);
        Check.due("at 1", x.at(s, 1), 255);
        for (int i : new int[] {-1, 2, 400, Integer.MAX_VALUE, Integer.MIN_VALUE}) {
            PackDesk y = new PackDesk();
            int t = Check.stream(y, 5, 255);
            Check.refuses(y, "at " + i, () -> y.at(t, i), Check.INDEX);
            Check.refuses(y, "harm " + i, () -> y.harm(t, i, 1), Check.INDEX);
            Check.refuses(y, "at of none", () -> y.at(1, i), PackDesk.UNKNOWN);
            Check.refuses(y, "harm of none", () -> y.harm(-1, i, 1), PackDesk.UNKNOWN);
        }
    }

    private static void harmChanges() {
        PackDesk x = new PackDesk();
        int s = Check.stream(x, 5, 255, 9);
        Check.due("harm", x.harm(s, 0, 3), 6);
        Check.due("harm by 8 bits alone", x.harm(s, 1, 0x10F), 0xF0);
        Check.due("harm by -1", x.harm(s, 2, -1), 0xF6);
        Check.due("harm by none", x.harm(s, 2, 256), 0xF6);
        Check.dueBytes("harmed", Check.bytes(x, s), 6, 0xF0, 0xF6);
        x.end(s);
        Check.due("harm of an ended one", x.harm(s, 2, 0xF6), 0);
        Check.due("it stays ended", x.about(s, 2), 1);
    }

    private static void seekMoves() {
        PackDesk x = new PackDesk();
        int s = Check.stream(x, 1, 2, 3);
        Check.due("seek", x.seek(s, 3), 0);
        Check.due("seek", x.seek(s, 1), 3);
        x.end(s);
        Check.due("seek in an ended one", x.seek(s, 0), 1);
        for (int p : new int[] {-1, 4, 400, Integer.MAX_VALUE, Integer.MIN_VALUE}) {
            Check.refuses(x, "seek " + p, () -> x.seek(s, p), Check.INDEX);
            Check.refuses(x, "seek in none", () -> x.seek(1, p), PackDesk.UNKNOWN);
        }
        Check.due("the place", x.about(s, 1), 0);
    }
}
