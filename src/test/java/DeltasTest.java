import java.util.Arrays;
import java.util.Random;

/** Promises 33 to 35: deltas. */
public final class DeltasTest {
    private static final int COPY = 0, ADD = 1;

    public static void main(String[] args) {
        actsAreAsTold();
        deltaRefuses();
        actRefuses();
        applyMakes();
        applyFindsMisfits();
        deltaIsOfThatTime();
        applyTakesFromTheStreamGiven();
        theLongestDeltas();
        everyDeltaMakesItsStream();
        Check.finish();
    }

    /** Acts: {COPY, place, length} or {ADD, -1, length}. */
    private static void dueActs(String what, int[] a, int[] b, int[]... acts) {
        PackDesk x = new PackDesk();
        int from = Check.stream(x, a), to = Check.stream(x, b);
        int d = x.delta(from, to);
        Check.due(what + ": delta", d, 0);
        Check.due(what + ": acts", x.act(d, -1, 0), acts.length);
        int copied = 0, added = 0;
        for (int i = 0; i < acts.length; i++) {
            for (int w = 0; w < 3; w++) Check.due(what + ": act " + i + ", " + w, x.act(d, i, w), acts[i][w]);
            if (acts[i][0] == COPY) copied += acts[i][2];
            else added += acts[i][2];
        }
        Check.due(what + ": copied", x.act(d, -1, 1), copied);
        Check.due(what + ": added", x.act(d, -1, 2), added);
        int made = x.apply(d, from);
        Check.due(what + ": apply", made, 2);
        Check.dueBytes(what, Check.bytes(x, made), b);
        Check.due(what + ": it is open", x.about(made, 2), 0);
        Check.due(what + ": its place", x.about(made, 1), 0);
    }

    private static int[] bytes(int... bytes) {
        return bytes;
    }

    private static int[] copy(int place, int length) {
        return new int[] {COPY, place, length};
    }

    private static int[] add(int length) {
        return new int[] {ADD, -1, length};
    }

    private static void actsAreAsTold() {
        dueActs("to nothing", bytes(1, 2, 3), bytes());
        dueActs("of nothing", bytes(), bytes(1, 2, 3), add(3));
        dueActs("of nothing to nothing", bytes(), bytes());
        dueActs("four alike", bytes(1, 2, 3, 4), bytes(1, 2, 3, 4), copy(0, 4));
        dueActs("three alike", bytes(1, 2, 3), bytes(1, 2, 3), add(3));
        dueActs("three alike at the end", bytes(9, 1, 2, 3), bytes(1, 2, 3, 4), add(4));
        dueActs("the longest one", bytes(1, 2, 3, 4, 0, 1, 2, 3, 4, 5), bytes(1, 2, 3, 4, 5), copy(5, 5));
        dueActs("of like ones the first", bytes(0, 1, 2, 3, 4, 9, 1, 2, 3, 4), bytes(1, 2, 3, 4, 7), copy(1, 4), add(1));
        dueActs("adds between", bytes(1, 2, 3, 4, 5, 6, 7, 8), bytes(9, 9, 1, 2, 3, 4, 9, 5, 6, 7, 8, 1, 2),
                add(2), copy(0, 4), add(1), copy(4, 4), add(2));
        dueActs("copies side by side", bytes(1, 2, 3, 4, 0, 5, 6, 7, 8), bytes(5, 6, 7, 8, 1, 2, 3, 4), copy(5, 4), copy(0, 4));
        dueActs("the first ones go ahead, greedily", bytes(1, 2, 3, 4, 0, 2, 3, 4, 5, 6, 7), bytes(1, 2, 3, 4, 5, 6, 7),
                copy(0, 4), add(3));
        dueActs("255 is a byte", bytes(255, 255, 128, 0), bytes(255, 255, 128, 0, 255), copy(0, 4), add(1));
    }

    private static void deltaRefuses() {
        PackDesk x = new PackDesk();
        Check.stream(x, 1, 2, 3, 4);
        for (int d = 0; d < 16; d++) Check.due("delta", x.delta(0, 0), d);
        Check.refuses(x, "delta 17", () -> x.delta(0, 0), PackDesk.FULL);
        Check.refuses(x, "delta: UNKNOWN ahead of FULL", () -> x.delta(1, 0), PackDesk.UNKNOWN);
        Check.refuses(x, "delta to none", () -> x.delta(0, -1), PackDesk.UNKNOWN);
        Check.refuses(x, "act of delta 17", () -> x.act(16, 0, 0), PackDesk.UNKNOWN);
        Check.due("count(5)", x.count(5), 16);
    }

    private static void actRefuses() {
        PackDesk x = new PackDesk();
        Check.stream(x, 1, 2, 3, 4);
        Check.stream(x, 9, 1, 2, 3, 4);
        x.delta(0, 1);
        for (int i : new int[] {-2, 2, Integer.MAX_VALUE, Integer.MIN_VALUE}) {
            Check.refuses(x, "act " + i, () -> x.act(0, i, 0), Check.INDEX);
            Check.refuses(x, "act " + i, () -> x.act(0, i, 3), PackDesk.OUTSIDE);
            Check.refuses(x, "act " + i, () -> x.act(1, i, 3), PackDesk.UNKNOWN);
        }
        Check.refuses(x, "act", () -> x.act(0, -1, 3), PackDesk.OUTSIDE);
        Check.refuses(x, "act", () -> x.act(0, 0, -1), PackDesk.OUTSIDE);
        Check.refuses(x, "act", () -> x.act(-1, 0, 0), PackDesk.UNKNOWN);
        Check.due("act", x.act(0, 1, 2), 4);
    }

    private static void applyMakes() {
        PackDesk x = new PackDesk();
        int a = Check.ended(x, 1, 2, 3, 4, 5), b = Check.ended(x, 7, 2, 3, 4, 5, 8), like = Check.stream(x, 1, 2, 3, 4, 5);
        int d = x.delta(a, b);
        Check.due("apply", x.apply(d, like), 3);
        Check.dueBytes("to one that is alike", Check.bytes(x, 3), 7, 2, 3, 4, 5, 8);
        Check.due("it is open", x.add(3, 1), 7);
        Check.refuses(x, "apply of none", () -> x.apply(1, a), PackDesk.UNKNOWN);
        Check.refuses(x, "apply of none", () -> x.apply(-1, a), PackDesk.UNKNOWN);
        Check.refuses(x, "apply to none", () -> x.apply(d, 4), PackDesk.UNKNOWN);
        Check.refuses(x, "apply to none", () -> x.apply(d, -1), PackDesk.UNKNOWN);
        for (int s = 4; s < 24; s++) Check.due("apply", x.apply(d, a), s);
        Check.refuses(x, "apply: MISFIT ahead of FULL", () -> x.apply(d, b), Check.MISFIT);
        Check.refuses(x, "stream 25", () -> x.apply(d, a), PackDesk.FULL);
    }

    private static void applyFindsMisfits() {
        PackDesk x = new PackDesk();
        int a = Check.stream(x, 0, 1, 2, 3, 4), b = Check.stream(x, 1, 2, 3, 4);
        int shorter = Check.stream(x, 1, 2, 3, 4), other = Check.stream(x, 0, 1, 2, 3, 5);
        int d = x.delta(a, b);
        Check.due("the sums are alike", x.about(shorter, 3), x.about(a, 3));
        Check.refuses(x, "another length, the same sum", () -> x.apply(d, shorter), Check.MISFIT);
        Check.refuses(x, "another sum, the same length", () -> x.apply(d, other), Check.MISFIT);
        x.harm(other, 4, 1);
        Check.due("mended", x.apply(d, other), 4);
    }

    private static void deltaIsOfThatTime() {
        PackDesk x = new PackDesk();
        int a = Check.stream(x, 1, 2, 3, 4), b = Check.stream(x, 9, 1, 2, 3, 4, 8);
        int d = x.delta(a, b);
        x.harm(b, 0, 255);
        x.harm(b, 2, 255);
        x.add(b, 5);
        Check.dueBytes("as b was", Check.bytes(x, x.apply(d, a)), 9, 1, 2, 3, 4, 8);
        x.add(a, 5);
        Check.refuses(x, "a is another now", () -> x.apply(d, a), Check.MISFIT);
        Check.dueBytes("as a was", Check.bytes(x, x.apply(d, Check.stream(x, 1, 2, 3, 4))), 9, 1, 2, 3, 4, 8);
    }

    private static void applyTakesFromTheStreamGiven() {
        PackDesk x = new PackDesk();
        int a = Check.stream(x, 1, 31, 5, 6, 7), twin = Check.stream(x, 2, 0, 5, 6, 7);
        Check.due("the sums are alike", x.about(a, 3), x.about(twin, 3));
        int d = x.delta(a, Check.stream(x, 9, 1, 31, 5, 6));
        Check.dueBytes("its bytes are copied", Check.bytes(x, x.apply(d, twin)), 9, 2, 0, 5, 6);
    }

    /** Each of these has 400 bytes in one STREAM, so that 112 calls are left. */
    private static void theLongestDeltas() {
        int[] zeros = new int[400], most = new int[400], counted = new int[400];
        for (int i = 0; i < 400; i++) {
            most[i] = i % 5 == 0 ? 200 : i % 5;
            counted[i] = i % 256;
        }
        dueTotals("400 like bytes", zeros, null, 1, 400, 0);
        dueTotals("400 bytes to themselves", counted, null, 1, 400, 0);
        dueTotals("160 acts", bytes(1, 2, 3, 4), most, 160, 320, 80);
        dueTotals("400 added", bytes(), counted, 1, 0, 400);
        dueTotals("nothing of 400", counted, bytes(), 0, 0, 0);
        dueActs("the end of 256", Arrays.copyOf(counted, 256), bytes(252, 253, 254, 255), copy(252, 4));
    }

    private static void dueTotals(String what, int[] a, int[] b, int acts, int copied, int added) {
        PackDesk x = new PackDesk();
        int from = Check.stream(x, a), to = b == null ? from : Check.stream(x, b);
        int d = x.delta(from, to);
        Check.due(what + ": acts", x.act(d, -1, 0), acts);
        Check.due(what + ": copied", x.act(d, -1, 1), copied);
        Check.due(what + ": added", x.act(d, -1, 2), added);
        int made = x.apply(d, from);
        Check.due(what + ": bytes", x.about(made, 0), x.about(to, 0));
        Check.due(what + ": the sum", x.about(made, 3), Check.sum(b == null ? a : b));
        for (int i = 0; i < 20 && i < x.about(to, 0); i++) Check.due(what + ": byte " + i, x.at(made, i), x.at(to, i));
    }

    private static void everyDeltaMakesItsStream() {
        Random random = new Random(33);
        for (int k = 0; k < 3000; k++) {
            PackDesk x = new PackDesk();
            Model m = new Model();
            int signs = 1 + random.nextInt(3);
            for (int s = 0; s < 2; s++) {
                x.stream();
                m.stream();
                int size = random.nextInt(60);
                for (int i = 0; i < size; i++) {
                    int b = random.nextInt(signs);
                    x.add(s, b);
                    m.add(s, b);
                }
            }
            Check.due("delta", x.delta(0, 1), m.delta(0, 1));
            for (int i = -1; i <= x.act(0, -1, 0); i++) {
                for (int w = 0; w < 3; w++) Check.due("act " + i, x.act(0, i, w), m.act(0, i, w));
            }
            Check.dueBytes("apply", Check.bytes(x, x.apply(0, 0)), Check.bytes(x, 1));
        }
    }
}
