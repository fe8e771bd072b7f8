import java.util.ArrayList;
import java.util.List;

/** Counts answers that are not as due, and builds what many tests need. */
final class Check {
    static final int NULL = -11, INDEX = -12, CAST = -13, SIZE = -14, ZERO = -15;
    static final int ENDS = -16, SHORT = -17, HARMED = -18, MISFIT = -19;

    private static int asDue = 0;
    private static int wrong = 0;

    private Check() {
    }

    static void due(String what, long got, long want) {
        if (got == want) {
            asDue++;
            return;
        }
        wrong++;
        System.out.println(what + " answered " + got + ", due is " + want);
    }

    static void holds(String what, boolean truth) {
        due(what, truth ? 1 : 0, 1);
    }

    static int wrong() {
        return wrong;
    }

    static void finish() {
        System.out.println("  " + asDue + " answers as due, " + wrong + " not");
        if (wrong != 0) System.exit(1);
    }

    static int row(PackDesk x, int kind, long... words) {
        int r = x.row(kind, words.length);
        for (int i = 0; i < words.length; i++) x.put(r, i, words[i]);
        return r;
    }

    static long whole(PackDesk x, int r, int i) {
        due("get(" + r + ", " + i + ")", x.get(r, i), 0);
        return x.seen();
    }

    static int stream(PackDesk x, int... bytes) {
        int s = x.stream();
        for (int b : bytes) x.add(s, b);
        return s;
    }

    static int ended(PackDesk x, int... bytes) {
        int s = stream(x, bytes);
        x.end(s);
        return s;
    }

    static int[] bytes(PackDesk x, int s) {
        int[] bytes = new int[x.about(s, 0)];
        for (int i = 0; i < bytes.length; i++) bytes[i] = x.at(s, i);
        return bytes;
    }

    static int sum(int... bytes) {
        long sum = 0;
        for (int b : bytes) sum = (31 * sum + b) % 65536;
        return (int) sum;
    }

    /** A PIECE with the right SUM, whatever stands in it. */
    static int[] piece(int mark, int kind, int n, int... made) {
        List<Integer> all = new ArrayList<>(List.of(mark, kind, n, made.length % 256, made.length / 256));
        for (int b : made) all.add(b);
        int sum = sum(all.stream().mapToInt(Integer::intValue).toArray());
        all.add(sum % 256);
        all.add(sum / 256);
        return all.stream().mapToInt(Integer::intValue).toArray();
    }

    static int[] joined(int[]... parts) {
        List<Integer> all = new ArrayList<>();
        for (int[] part : parts) for (int b : part) all.add(b);
        return all.stream().mapToInt(Integer::intValue).toArray();
    }

    static void dueBytes(String what, int[] got, int... want) {
        holds(what + ": " + java.util.Arrays.toString(got) + ", due is " + java.util.Arrays.toString(want),
                java.util.Arrays.equals(got, want));
    }

    /** A call that must change nothing but findings answers as due. */
    interface Call {
        int answer();
    }

    static void refuses(PackDesk x, String what, Call call, int want) {
        long digest = x.digest();
        long seen = x.seen();
        int latest = x.finding();
        int[] times = new int[10];
        for (int f = 1; f <= 9; f++) times[f] = x.findings(f);
        int bodies = x.count(2), ever = x.count(3), houses = x.count(4);
        due(what, call.answer(), want);
        due(what + ", then digest()", x.digest(), digest);
        due(what + ", then seen()", x.seen(), seen);
        due(what + ", then count(2)", x.count(2), bodies);
        due(what + ", then count(3)", x.count(3), ever);
        due(what + ", then count(4)", x.count(4), houses);
        int f = want <= -11 && want >= -19 ? -10 - want : 0;
        due(what + ", then finding()", x.finding(), f == 0 ? latest : f);
        for (int g = 1; g <= 9; g++) due(what + ", then findings(" + g + ")", x.findings(g), times[g] + (g == f ? 1 : 0));
    }
}
