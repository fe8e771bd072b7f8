import java.util.ArrayList;
import java.util.List;
import java.util.Random;

/** Promises 9 to 12: compare, shape, rest, most. */
public final class NumbersTest {
    private static final int LESS = 35, LIKE = 26, GREATER = 44, NOT_LIKE = 32;
    private static final long FLOAT_GAP = 0x7FC00000L, DOUBLE_GAP = 0x7FF8000000000000L;

    public static void main(String[] args) {
        compareOrders();
        compareRefuses();
        shapeOfWholeOnes();
        shapeOfFloatingOnes();
        shapeRefuses();
        restOfWholeOnes();
        restOfFloatingOnes();
        restRefuses();
        mostFinds();
        mostRefuses();
        floatsAsJavaHasThem();
        doublesAsJavaHasThem();
        Check.finish();
    }

    private static long bits(float f) {
        return Float.floatToIntBits(f);
    }

    private static long bits(double d) {
        return Double.doubleToLongBits(d);
    }

    private static void compares(int kind, long one, long other, int want) {
        PackDesk x = new PackDesk();
        Check.row(x, kind, one, other);
        int turned = want == LESS ? GREATER : want == GREATER ? LESS : want;
        Check.due("kind " + kind + ": " + one + " against " + other, x.compare(0, 0, 1), want);
        Check.due("kind " + kind + ": " + other + " against " + one, x.compare(0, 1, 0), turned);
    }

    private static void compareOrders() {
        compares(0, 0, 1, LESS);
        compares(0, 1, 1, LIKE);
        compares(1, -128, 127, LESS);
        compares(2, 65535, 0, GREATER);
        compares(2, -1, 1, GREATER);
        compares(3, -32768, 32767, LESS);
        compares(4, Integer.MIN_VALUE, Integer.MAX_VALUE, LESS);
        compares(5, Long.MIN_VALUE, Long.MAX_VALUE, LESS);
        compares(5, -1, 0, LESS);
        compares(5, 7, 7, LIKE);
        compares(6, bits(-0.0f), bits(0.0f), LIKE);
        compares(6, bits(-1.5f), bits(-1.25f), LESS);
        compares(6, bits(Float.NEGATIVE_INFINITY), bits(-Float.MAX_VALUE), LESS);
        compares(6, bits(Float.MIN_VALUE), bits(-0.0f), GREATER);
        compares(6, -1, bits(1.0f), NOT_LIKE);
        compares(7, bits(-0.0), bits(0.0), LIKE);
        compares(7, bits(-Double.MIN_VALUE), bits(0.0), LESS);
        compares(7, bits(Double.POSITIVE_INFINITY), bits(Double.MAX_VALUE), GREATER);
        compares(7, bits(Double.POSITIVE_INFINITY), bits(Double.POSITIVE_INFINITY), LIKE);
        compares(7, DOUBLE_GAP, DOUBLE_GAP, NOT_LIKE);
        compares(4, FLOAT_GAP, FLOAT_GAP, LIKE);
        compares(5, DOUBLE_GAP, DOUBLE_GAP, LIKE);
        PackDesk x = new PackDesk();
        Check.row(x, 6, FLOAT_GAP, 0);
        Check.due("a gap against itself", x.compare(0, 0, 0), NOT_LIKE);
        Check.due("0.0 against itself", x.compare(0, 1, 1), LIKE);
    }

    private static void compareRefuses() {
        PackDesk x = new PackDesk();
        x.row(4, 2);
        x.row(4, 2);
        x.lose(1);
        for (int i : new int[] {-1, 2, Integer.MAX_VALUE, Integer.MIN_VALUE}) {
            Check.refuses(x, "compare", () -> x.compare(0, i, 0), Check.INDEX);
            Check.refuses(x, "compare", () -> x.compare(0, 0, i), Check.INDEX);
            Check.refuses(x, "compare of a lost one", () -> x.compare(1, i, i), Check.NULL);
            Check.refuses(x, "compare of none", () -> x.compare(2, i, i), PackDesk.UNKNOWN);
        }
    }

    private static void shapes(int kind, long whole, int way, long want) {
        PackDesk x = new PackDesk();
        Check.row(x, kind, 0, whole);
        String what = "kind " + kind + ": shape " + way + " of " + whole;
        Check.due(what, x.shape(0, 1, way), 0);
        Check.due(what, x.seen(), want);
        Check.due("the number stays", Check.whole(x, 0, 1), Model.told(kind, whole));
    }

    private static void shapeOfWholeOnes() {
        shapes(0, 0, 0, 0);
        shapes(0, 1, 0, 1);
        shapes(0, 0, 5, 1);
        shapes(0, 1, 5, 0);
        shapes(1, -128, 0, -128);
        shapes(1, -127, 0, 127);
        shapes(1, -128, 5, -128);
        shapes(1, 127, 5, -127);
        shapes(2, 65535, 0, 65535);
        shapes(2, 65535, 5, 1);
        shapes(2, 1, 5, 65535);
        shapes(2, 0, 5, 0);
        shapes(3, -32768, 0, -32768);
        shapes(3, -32768, 5, -32768);
        shapes(3, -5, 0, 5);
        shapes(4, Integer.MIN_VALUE, 0, Integer.MIN_VALUE);
        shapes(4, Integer.MIN_VALUE, 5, Integer.MIN_VALUE);
        shapes(4, Integer.MAX_VALUE, 5, -Integer.MAX_VALUE);
        shapes(5, Long.MIN_VALUE, 0, Long.MIN_VALUE);
        shapes(5, Long.MIN_VALUE, 5, Long.MIN_VALUE);
        shapes(5, -9, 0, 9);
        shapes(5, Long.MAX_VALUE, 5, -Long.MAX_VALUE);
    }

    private static void shapeOfFloatingOnes() {
        for (int way = 0; way <= 5; way++) {
            shapes(6, FLOAT_GAP, way, FLOAT_GAP);
            shapes(7, DOUBLE_GAP, way, DOUBLE_GAP);
        }
        shapes(6, bits(-2.5f), 0, bits(2.5f));
        shapes(6, bits(-2.5f), 1, bits(-3.0f));
        shapes(6, bits(-2.5f), 2, bits(-2.0f));
        shapes(6, bits(-2.5f), 3, bits(-2.0f));
        shapes(6, bits(-3.5f), 3, bits(-4.0f));
        shapes(6, bits(-2.5f), 4, bits(-1.0f));
        shapes(6, bits(-2.5f), 5, bits(2.5f));
        shapes(6, bits(-0.5f), 2, bits(-0.0f));
        shapes(6, bits(-0.5f), 3, bits(-0.0f));
        shapes(6, bits(0.5f), 3, bits(0.0f));
        shapes(6, bits(Math.nextUp(0.5f)), 3, bits(1.0f));
        shapes(6, bits(1.5f), 3, bits(2.0f));
        shapes(6, bits(Float.MIN_VALUE), 2, bits(1.0f));
        shapes(6, bits(-Float.MIN_VALUE), 1, bits(-1.0f));
        shapes(6, bits(Float.NEGATIVE_INFINITY), 4, bits(-1.0f));
        shapes(7, bits(0.5), 1, bits(0.0));
        shapes(7, bits(-0.5), 2, bits(-0.0));
        shapes(7, bits(2.5), 3, bits(2.0));
        shapes(7, bits(1.5), 3, bits(2.0));
        shapes(7, bits(4503599627370495.5), 3, bits(4503599627370496.0));
        shapes(7, bits(4503599627370494.5), 3, bits(4503599627370494.0));
        shapes(7, bits(4503599627370497.0), 3, bits(4503599627370497.0));
        shapes(7, bits(-0.0), 4, bits(-0.0));
        shapes(7, bits(0.0), 4, bits(0.0));
        shapes(7, bits(0.0), 5, bits(-0.0));
        shapes(7, bits(Double.MIN_VALUE), 4, bits(1.0));
        for (int way = 0; way <= 3; way++) shapes(7, bits(Double.POSITIVE_INFINITY), way, bits(Double.POSITIVE_INFINITY));
        shapes(7, bits(Double.NEGATIVE_INFINITY), 0, bits(Double.POSITIVE_INFINITY));
        shapes(7, bits(Double.NEGATIVE_INFINITY), 1, bits(Double.NEGATIVE_INFINITY));
    }

    private static void shapeRefuses() {
        for (int kind = 0; kind < 8; kind++) {
            PackDesk x = new PackDesk();
            for (int k = 0; k < 8; k++) x.row(k, 2);
            int r = kind;
            for (int way = 1; way <= 4; way++) {
                int w = way;
                if (kind < 6) Check.refuses(x, "shape", () -> x.shape(r, 5, w), PackDesk.STATE);
            }
            for (int i : new int[] {-1, 2, Integer.MAX_VALUE}) {
                Check.refuses(x, "shape", () -> x.shape(r, i, 0), Check.INDEX);
                Check.refuses(x, "shape", () -> x.shape(r, i, 5), Check.INDEX);
            }
            Check.refuses(x, "shape", () -> x.shape(r, 5, -1), PackDesk.OUTSIDE);
            Check.refuses(x, "shape", () -> x.shape(r, 5, 6), PackDesk.OUTSIDE);
            x.lose(r);
            Check.refuses(x, "shape of a lost one", () -> x.shape(r, 0, 6), PackDesk.OUTSIDE);
            Check.refuses(x, "shape of a lost one", () -> x.shape(r, 0, 3), r < 6 ? PackDesk.STATE : Check.NULL);
            Check.refuses(x, "shape of a lost one", () -> x.shape(r, 5, 0), Check.NULL);
        }
        PackDesk x = new PackDesk();
        x.row(6, 2);
        Check.refuses(x, "shape of none", () -> x.shape(1, 0, 6), PackDesk.UNKNOWN);
        Check.refuses(x, "shape of none", () -> x.shape(-1, 0, 0), PackDesk.UNKNOWN);
    }

    private static void rests(int kind, long one, long other, long want) {
        PackDesk x = new PackDesk();
        Check.row(x, kind, one, other);
        String what = "kind " + kind + ": rest of " + one + " by " + other;
        Check.due(what, x.rest(0, 0, 1), 0);
        Check.due(what, x.seen(), want);
    }

    private static void hasNoRest(int kind, long one, long other) {
        PackDesk x = new PackDesk();
        Check.row(x, kind, one, other);
        Check.refuses(x, "kind " + kind + ": rest of " + one + " by " + other, () -> x.rest(0, 0, 1), Check.ZERO);
    }

    private static void restOfWholeOnes() {
        rests(0, 1, 1, 0);
        rests(0, 0, 1, 0);
        rests(1, -7, 3, -1);
        rests(1, 7, -3, 1);
        rests(2, 65535, 7, 65535 % 7);
        rests(3, -32768, -1, 0);
        rests(4, Integer.MIN_VALUE, -1, 0);
        rests(4, -10, 4, -2);
        rests(5, Long.MIN_VALUE, -1, 0);
        rests(5, Long.MIN_VALUE, Long.MAX_VALUE, -1);
        rests(5, 5, Long.MIN_VALUE, 5);
        for (int kind = 0; kind < 8; kind++) hasNoRest(kind, 1, 0);
    }

    private static void restOfFloatingOnes() {
        rests(6, bits(5.5f), bits(2.0f), bits(1.5f));
        rests(6, bits(-5.5f), bits(2.0f), bits(-1.5f));
        rests(6, bits(5.5f), bits(-2.0f), bits(1.5f));
        rests(6, bits(-4.0f), bits(2.0f), bits(-0.0f));
        rests(6, bits(-0.0f), bits(2.0f), bits(-0.0f));
        rests(6, bits(3.0f), bits(Float.NEGATIVE_INFINITY), bits(3.0f));
        rests(6, bits(Float.MAX_VALUE), bits(Float.MIN_VALUE), bits(0.0f));
        rests(7, bits(Double.MAX_VALUE), bits(3.0), bits(Double.MAX_VALUE % 3.0));
        rests(7, bits(1.0), bits(Double.MIN_VALUE * 3), bits(1.0 % (Double.MIN_VALUE * 3)));
        rests(7, bits(0.3), bits(0.1), bits(0.3 % 0.1));
        hasNoRest(6, FLOAT_GAP, bits(1.0f));
        hasNoRest(6, bits(1.0f), FLOAT_GAP);
        hasNoRest(6, bits(1.0f), bits(-0.0f));
        hasNoRest(6, bits(Float.POSITIVE_INFINITY), bits(1.0f));
        hasNoRest(7, bits(Double.NEGATIVE_INFINITY), bits(Double.NEGATIVE_INFINITY));
        hasNoRest(7, bits(1.0), bits(-0.0));
        hasNoRest(7, DOUBLE_GAP, bits(1.0));
        hasNoRest(7, bits(1.0), DOUBLE_GAP);
    }

    private static void restRefuses() {
        PackDesk x = new PackDesk();
        x.row(4, 2);
        x.row(4, 2);
        x.lose(1);
        for (int i : new int[] {-1, 2, Integer.MAX_VALUE, Integer.MIN_VALUE}) {
            Check.refuses(x, "rest: INDEX ahead of ZERO", () -> x.rest(0, i, 0), Check.INDEX);
            Check.refuses(x, "rest", () -> x.rest(0, 0, i), Check.INDEX);
            Check.refuses(x, "rest of a lost one", () -> x.rest(1, i, i), Check.NULL);
            Check.refuses(x, "rest of none", () -> x.rest(2, i, i), PackDesk.UNKNOWN);
        }
    }

    private static void finds(int kind, int what, long want, long... words) {
        PackDesk x = new PackDesk();
        Check.row(x, kind, words);
        String of = "kind " + kind + ": most " + what;
        Check.due(of, x.most(0, what), 0);
        Check.due(of, x.seen(), want);
    }

    private static void mostFinds() {
        finds(0, 0, 1, 0, 1, 0);
        finds(0, 1, 0, 1, 0, 1);
        finds(0, 1, 1, 1, 1);
        finds(1, 0, -3, -5, -3, -128);
        finds(1, 1, -128, -5, -3, -128);
        finds(2, 0, 65535, 1, 65535, 2);
        finds(2, 1, 1, 1, 65535, 2);
        finds(5, 0, Long.MIN_VALUE, Long.MIN_VALUE);
        finds(5, 1, Long.MIN_VALUE, 0, Long.MIN_VALUE, Long.MAX_VALUE);
        finds(5, 0, Long.MAX_VALUE, 0, Long.MIN_VALUE, Long.MAX_VALUE);
        finds(5, 2, 0, DOUBLE_GAP);
        finds(4, 2, 0);
        finds(6, 0, bits(0.0f), bits(-0.0f), bits(0.0f), bits(-0.0f));
        finds(6, 1, bits(-0.0f), bits(0.0f), bits(-0.0f), bits(0.0f));
        finds(6, 0, bits(-1.0f), FLOAT_GAP, bits(-1.0f), bits(-2.0f), FLOAT_GAP);
        finds(6, 1, bits(-2.0f), FLOAT_GAP, bits(-1.0f), bits(-2.0f), FLOAT_GAP);
        finds(6, 1, bits(5.0f), FLOAT_GAP, bits(5.0f), FLOAT_GAP);
        finds(6, 2, 2, FLOAT_GAP, bits(-1.0f), bits(-2.0f), -1);
        finds(7, 0, bits(Double.POSITIVE_INFINITY), bits(Double.MAX_VALUE), bits(Double.POSITIVE_INFINITY));
        finds(7, 1, bits(Double.NEGATIVE_INFINITY), bits(-Double.MAX_VALUE), bits(Double.NEGATIVE_INFINITY), DOUBLE_GAP);
        finds(7, 2, 0, bits(1.0));
        finds(7, 2, 3, DOUBLE_GAP, DOUBLE_GAP, -1);
    }

    private static void mostRefuses() {
        PackDesk x = new PackDesk();
        x.row(4, 0);
        Check.row(x, 6, FLOAT_GAP, FLOAT_GAP);
        x.row(4, 1);
        x.lose(2);
        for (int what = 0; what <= 1; what++) {
            int w = what;
            Check.refuses(x, "most of an empty one", () -> x.most(0, w), Check.ZERO);
            Check.refuses(x, "most of gaps", () -> x.most(1, w), Check.ZERO);
            Check.refuses(x, "most of a lost one", () -> x.most(2, w), Check.NULL);
        }
        Check.refuses(x, "most of a lost one", () -> x.most(2, 2), Check.NULL);
        Check.refuses(x, "most of a lost one", () -> x.most(2, 3), PackDesk.OUTSIDE);
        Check.refuses(x, "most(0, 3)", () -> x.most(0, 3), PackDesk.OUTSIDE);
        Check.refuses(x, "most(0, -1)", () -> x.most(0, -1), PackDesk.OUTSIDE);
        Check.refuses(x, "most of none", () -> x.most(3, 3), PackDesk.UNKNOWN);
    }

    /** Pairs, each against Java's own operations, a new desk for every dozen. */
    private static void asJavaHasThem(int kind, List<Long> words) {
        PackDesk x = null;
        for (int k = 0; k + 1 < words.size(); k++) {
            long one = Model.told(kind, words.get(k)), other = Model.told(kind, words.get(k + 1));
            if (k % 12 == 0) {
                x = new PackDesk();
                x.row(kind, 2);
            }
            x.put(0, 0, one);
            x.put(0, 1, other);
            Model m = new Model();
            m.row(kind, 2);
            m.put(0, 0, one);
            m.put(0, 1, other);
            String of = "kind " + kind + ", " + one + ", " + other;
            Check.due(of + ": compare", x.compare(0, 0, 1), m.compare(0, 0, 1));
            for (int way = 0; way <= 5; way++) {
                Check.due(of + ": shape " + way, x.shape(0, 0, way), m.shape(0, 0, way));
                Check.due(of + ": shape " + way, x.seen(), m.seen());
            }
            Check.due(of + ": rest", x.rest(0, 0, 1), m.rest(0, 0, 1));
            Check.due(of + ": rest", x.seen(), m.seen());
            if (Check.wrong() > 20) return;
        }
    }

    private static void floatsAsJavaHasThem() {
        Random random = new Random(6);
        List<Long> words = new ArrayList<>();
        for (int k = 0; k < 60000; k++) {
            switch (k % 4) {
                case 0 -> words.add((long) random.nextInt());
                case 1 -> words.add(bits((random.nextInt(4001) - 2000) / 4.0f));
                case 2 -> words.add((long) (random.nextInt(1 << 24) << random.nextInt(2) * 31));
                default -> words.add(bits((random.nextInt(1 << 25) + 0.5f) * (random.nextBoolean() ? 0.5f : -0.5f)));
            }
        }
        asJavaHasThem(6, words);
    }

    private static void doublesAsJavaHasThem() {
        Random random = new Random(7);
        List<Long> words = new ArrayList<>();
        for (int k = 0; k < 60000; k++) {
            switch (k % 4) {
                case 0 -> words.add(random.nextLong());
                case 1 -> words.add(bits((random.nextInt(4001) - 2000) / 4.0));
                case 2 -> words.add(random.nextLong() & 0x801FFFFFFFFFFFFFL);
                default -> words.add(bits(random.nextLong() / (double) (1L << random.nextInt(30) + 10)));
            }
        }
        asJavaHasThem(7, words);
    }
}
