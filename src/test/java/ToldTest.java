/** Promises 36 to 39: what is told. */
public final class ToldTest {
    public static void main(String[] args) {
        findingsAreCounted();
        refusalsAreNone();
        countTells();
        digestOfAll();
        digestOfEachPart();
        Check.finish();
    }

    private static void findingsAreCounted() {
        PackDesk x = new PackDesk();
        x.row(4, 1);
        x.row(5, 1);
        x.row(4, 1);
        x.lose(2);
        int empty = x.stream(), one = Check.stream(x, 1), harmed = Check.stream(x, 1, 2, 3, 0, 0, 5, 6);
        x.delta(one, empty);
        int[] times = {0, 3, 1, 2, 1, 4, 1, 2, 1, 5};
        for (int f = 1; f <= 9; f++) {
            for (int k = 1; k <= times[f]; k++) {
                Check.due("finding " + f, find(x, f, empty, one, harmed), -10 - f);
                Check.due("finding()", x.finding(), f);
                Check.due("findings(" + f + ")", x.findings(f), k);
            }
        }
        for (int f = 1; f <= 9; f++) Check.due("findings(" + f + ")", x.findings(f), times[f]);
        x.length(0);
        Check.due("finding() stays", x.finding(), 9);
        Check.refuses(x, "findings(0)", () -> x.findings(0), PackDesk.OUTSIDE);
        Check.refuses(x, "findings(10)", () -> x.findings(10), PackDesk.OUTSIDE);
        Check.refuses(x, "findings(-1)", () -> x.findings(-1), PackDesk.OUTSIDE);
        Check.refuses(x, "findings(MAX)", () -> x.findings(Integer.MAX_VALUE), PackDesk.OUTSIDE);
    }

    private static int find(PackDesk x, int f, int empty, int one, int harmed) {
        return switch (f) {
            case 1 -> x.length(2);
            case 2 -> x.get(0, 1);
            case 3 -> x.copy(0, 0, 1, 0, 1);
            case 4 -> x.row(0, -1);
            case 5 -> x.rest(0, 0, 0);
            case 6 -> x.read(empty);
            case 7 -> x.read(one);
            case 8 -> x.read(harmed);
            default -> x.apply(0, empty);
        };
    }

    private static void refusalsAreNone() {
        PackDesk x = new PackDesk();
        x.kind(0);
        x.row(9, 0);
        x.stream();
        x.end(0);
        x.end(0);
        x.count(9);
        Check.due("finding()", x.finding(), 0);
        for (int f = 1; f <= 9; f++) Check.due("findings(" + f + ")", x.findings(f), 0);
    }

    private static void countTells() {
        PackDesk x = new PackDesk();
        for (int k = 0; k < 5; k++) x.row(0, 0);
        for (int k = 0; k < 4; k++) x.stream();
        for (int k = 0; k < 3; k++) x.house();
        for (int k = 0; k < 2; k++) x.delta(0, 1);
        x.add(0, 1);
        x.end(0);
        x.end(1);
        x.keep(0, 0, 0);
        x.keep(0, 1, 1);
        x.drop(0, 0);
        x.lose(4);
        int[] want = {5, 4, 1, 2, 3, 2};
        for (int what = 0; what < 6; what++) Check.due("count(" + what + ")", x.count(what), want[what]);
        x.take(0, 1);
        Check.due("count(1)", x.count(1), 5);
        Check.refuses(x, "count(6)", () -> x.count(6), PackDesk.OUTSIDE);
        Check.refuses(x, "count(-1)", () -> x.count(-1), PackDesk.OUTSIDE);
    }

    private static long mixed(long... numbers) {
        long h = 19;
        for (long number : numbers) h = 31 * h + number;
        return h;
    }

    private static void digestOfAll() {
        PackDesk x = new PackDesk();
        Check.row(x, 4, -1, 5);
        Check.row(x, 6, -1);
        x.row(2, 3);
        x.lose(2);
        int s = Check.stream(x, 1, 2), t = Check.ended(x, 255);
        x.seek(s, 1);
        x.house();
        x.house();
        x.house();
        x.keep(1, 9, t);
        x.keep(1, 1L << 50, t);
        x.keep(1, 3, t);
        x.keep(2, 0, t);
        x.delta(s, t);
        Check.due("digest", x.digest(), mixed(3, 4, 2, -1, 5, 6, 1, 0x7FC00000L, 2, -1,
                2, 2, 33, 1, 0, 1, 255, 0, 1,
                0, 3, 3, 0, 9, 0, 1L << 50, 0, 1, 0, 0,
                1));
        Check.due("digest changes nothing", x.digest(), x.digest());
    }

    /** What the digest leaves out does not change it. */
    private static void digestOfEachPart() {
        PackDesk x = new PackDesk();
        Check.row(x, 4, 7);
        long digest = x.digest();
        x.get(0, 0);
        x.get(0, 1);
        Check.due("digest, whatever was seen and found", x.digest(), digest);
        x.put(0, 0, 8);
        Check.holds("digest, another number", x.digest() != digest);
        x.put(0, 0, 7);
        Check.due("digest, the same number", x.digest(), digest);
    }
}
