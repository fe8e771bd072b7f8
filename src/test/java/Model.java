import java.util.ArrayList;
import java.util.Arrays;
import java.util.List;
import java.util.TreeMap;

/**
 * The document once more, written for plainness and with the whole Java library,
 * and on purpose by other ways than PackDesk takes. RandomRunsTest holds the two
 * against each other.
 */
public final class Model {
    static final int NONE = -1, UNKNOWN = -101, OUTSIDE = -102, STATE = -103, FULL = -104;

    private static final class Row {
        int kind;
        long[] wholes;
        boolean lost;
    }

    private static final class Stream {
        List<Integer> bytes = new ArrayList<>();
        int place;
        boolean ended;
    }

    private static final class Act {
        int place = -1;
        int length;
        List<Integer> bytes = new ArrayList<>();
    }

    private static final class Delta {
        List<Act> acts = new ArrayList<>();
        int size, sum;
    }

    private final List<Row> rows = new ArrayList<>();
    private final List<Stream> streams = new ArrayList<>();
    private final List<TreeMap<Long, Integer>> houses = new ArrayList<>();
    private final TreeMap<Integer, List<Integer>> bodies = new TreeMap<>();
    private final List<Delta> deltas = new ArrayList<>();
    private final int[] found = new int[10];
    private int bodiesEver, latest;
    private long seen;

    private int found(int f) {
        latest = f;
        found[f]++;
        return -10 - f;
    }

    private static boolean names(int i, List<?> all) {
        return i >= 0 && i < all.size();
    }

    static long told(int kind, long w) {
        return switch (kind) {
            case 0 -> Math.floorMod(w, 2L);
            case 1 -> Long.valueOf(w).byteValue();
            case 2 -> Math.floorMod(w, 65536L);
            case 3 -> Long.valueOf(w).shortValue();
            case 4 -> Long.valueOf(w).intValue();
            case 6 -> Float.floatToIntBits(Float.intBitsToFloat((int) w));
            case 7 -> Double.doubleToLongBits(Double.longBitsToDouble(w));
            default -> w;
        };
    }

    private static double real(int kind, long whole) {
        return kind == 6 ? Float.intBitsToFloat((int) whole) : Double.longBitsToDouble(whole);
    }

    private static long bits(int kind, double d) {
        return kind == 6 ? Float.floatToIntBits((float) d) : Double.doubleToLongBits(d);
    }

    // ---- rows

    public int row(int kind, int n) {
        if (kind < 0 || kind > 7 || n > 24) return OUTSIDE;
        if (rows.size() == 60) return FULL;
        if (n < 0) return found(4);
        Row row = new Row();
        row.kind = kind;
        row.wholes = new long[n];
        rows.add(row);
        return rows.size() - 1;
    }

    public int lose(int r) {
        if (!names(r, rows)) return UNKNOWN;
        if (rows.get(r).lost) return found(1);
        rows.get(r).lost = true;
        return rows.get(r).wholes.length;
    }

    public int kind(int r) {
        return names(r, rows) ? rows.get(r).kind : UNKNOWN;
    }

    public int length(int r) {
        if (!names(r, rows)) return UNKNOWN;
        return rows.get(r).lost ? found(1) : rows.get(r).wholes.length;
    }

    /** For those who make up calls: it finds nothing. */
    int sizeOfRow(int r) {
        return names(r, rows) ? rows.get(r).wholes.length : 0;
    }

    private int noPlace(int r, int... places) {
        if (!names(r, rows)) return UNKNOWN;
        if (rows.get(r).lost) return found(1);
        for (int i : places) if (i < 0 || i >= rows.get(r).wholes.length) return found(2);
        return 0;
    }

    public int put(int r, int i, long word) {
        int no = noPlace(r, i);
        if (no != 0) return no;
        rows.get(r).wholes[i] = told(rows.get(r).kind, word);
        return 0;
    }

    public int get(int r, int i) {
        int no = noPlace(r, i);
        if (no != 0) return no;
        seen = rows.get(r).wholes[i];
        return 0;
    }

    public int copy(int a, int i, int b, int j, int n) {
        if (!names(a, rows) || !names(b, rows)) return UNKNOWN;
        Row from = rows.get(a), to = rows.get(b);
        if (from.kind != to.kind) return found(3);
        if (from.lost || to.lost) return found(1);
        if (i < 0 || j < 0 || n < 0) return found(2);
        if ((long) i + n > from.wholes.length || (long) j + n > to.wholes.length) return found(2);
        long[] taken = Arrays.copyOfRange(from.wholes, i, i + n);
        for (int k = 0; k < n; k++) to.wholes[j + k] = taken[k];
        return 0;
    }

    public int compare(int r, int i, int j) {
        int no = noPlace(r, i, j);
        if (no != 0) return no;
        Row row = rows.get(r);
        long v = row.wholes[i], w = row.wholes[j];
        if (row.kind >= 6) {
            double a = real(row.kind, v), b = real(row.kind, w);
            return (a < b ? 1 : 0) + (a <= b ? 2 : 0) + (a > b ? 4 : 0) + (a >= b ? 8 : 0) + (a == b ? 16 : 0) + (a != b ? 32 : 0);
        }
        return (v < w ? 1 : 0) + (v <= w ? 2 : 0) + (v > w ? 4 : 0) + (v >= w ? 8 : 0) + (v == w ? 16 : 0) + (v != w ? 32 : 0);
    }

    public int shape(int r, int i, int way) {
        if (!names(r, rows)) return UNKNOWN;
        if (way < 0 || way > 5) return OUTSIDE;
        Row row = rows.get(r);
        if (row.kind < 6 && way >= 1 && way <= 4) return STATE;
        int no = noPlace(r, i);
        if (no != 0) return no;
        long v = row.wholes[i];
        if (row.kind == 0) {
            seen = way == 0 ? v : v == 0 ? 1 : 0;
        } else if (row.kind < 6) {
            seen = told(row.kind, way == 0 ? Math.abs(v) : -v);
        } else {
            double d = real(row.kind, v);
            seen = bits(row.kind, switch (way) {
                case 0 -> Math.abs(d);
                case 1 -> Math.floor(d);
                case 2 -> Math.ceil(d);
                case 3 -> Math.rint(d);
                case 4 -> Math.signum(d);
                default -> -d;
            });
        }
        return 0;
    }

    public int rest(int r, int i, int j) {
        int no = noPlace(r, i, j);
        if (no != 0) return no;
        Row row = rows.get(r);
        long v = row.wholes[i], w = row.wholes[j];
        if (row.kind < 6) {
            if (w == 0) return found(5);
            seen = v % w;
            return 0;
        }
        double rest = real(row.kind, v) % real(row.kind, w);
        if (row.kind == 6) rest = Float.intBitsToFloat((int) v) % Float.intBitsToFloat((int) w);
        if (Double.isNaN(rest)) return found(5);
        seen = bits(row.kind, rest);
        return 0;
    }

    public int most(int r, int what) {
        if (!names(r, rows)) return UNKNOWN;
        if (what < 0 || what > 2) return OUTSIDE;
        Row row = rows.get(r);
        if (row.lost) return found(1);
        List<Long> numbers = new ArrayList<>();
        for (long v : row.wholes) if (row.kind < 6 || !Double.isNaN(real(row.kind, v))) numbers.add(v);
        if (what == 2) {
            seen = row.wholes.length - numbers.size();
            return 0;
        }
        if (numbers.isEmpty()) return found(5);
        numbers.sort((v, w) -> row.kind < 6 ? Long.compare(v, w) : Double.compare(real(row.kind, v), real(row.kind, w)));
        seen = numbers.get(what == 0 ? numbers.size() - 1 : 0);
        return 0;
    }

    public long seen() {
        return seen;
    }

    // ---- coders

    private static void plain(List<Integer> to, long v) {
        long z = v >= 0 ? 2 * v : -2 * v - 1;
        do {
            int low = (int) Long.remainderUnsigned(z, 128);
            z = Long.divideUnsigned(z, 128);
            to.add(z == 0 ? low : low + 128);
        } while (z != 0);
    }

    private static long[] steps(long[] v) {
        long[] steps = new long[v.length];
        for (int i = 0; i < v.length; i++) steps[i] = i == 0 ? v[0] : v[i] - v[i - 1];
        return steps;
    }

    static List<Integer> coded(int coder, long[] v) {
        List<Integer> made = new ArrayList<>();
        switch (coder) {
            case 0 -> Arrays.stream(v).forEach(x -> plain(made, x));
            case 1 -> Arrays.stream(steps(v)).forEach(x -> plain(made, x));
            case 2 -> Arrays.stream(steps(steps(v))).forEach(x -> plain(made, x));
            case 3 -> {
                for (int i = 0, j; i < v.length; i = j) {
                    for (j = i; j < v.length && v[j] == v[i]; ) j++;
                    plain(made, v[i]);
                    plain(made, j - i - 1);
                }
            }
            default -> {
                long[] steps = steps(v);
                int w = 1;
                for (long x : steps) while (w < 8 && (x < -(1L << (8 * w - 1)) || x >= 1L << (8 * w - 1))) w++;
                made.add(w);
                for (long x : steps) for (int k = 0; k < w; k++) made.add((int) (x >>> 8 * k & 255));
            }
        }
        return made;
    }

    static int sum(List<Integer> bytes) {
        long s = 0;
        for (int b : bytes) s = (31 * s + b) % 65536;
        return (int) s;
    }

    /** Reads one after the other; what the CODER could not have made is answered by null. */
    private static final class Opener {
        final List<Integer> made;
        int at;

        Opener(List<Integer> made) {
            this.made = made;
        }

        Long plain() {
            long z = 0;
            for (int k = 0; at < made.size(); k++) {
                int b = made.get(at++);
                if (k == 9 && b > 1) return null;
                z += (long) (b % 128) << 7 * k;
                if (b < 128) {
                    if (b == 0 && k > 0) return null;
                    return z % 2 == 0 ? Long.valueOf(z >>> 1) : Long.valueOf(~(z >>> 1));
                }
            }
            return null;
        }
    }

    static long[] opened(int coder, int kind, int n, List<Integer> made) {
        Opener o = new Opener(made);
        long[] v = new long[n];
        if (coder <= 2) {
            for (int i = 0; i < n; i++) {
                Long x = o.plain();
                if (x == null) return null;
                v[i] = x;
            }
        } else if (coder == 3) {
            for (int i = 0; i < n; ) {
                Long x = o.plain();
                Long more = x == null ? null : o.plain();
                if (more == null || more < 0 || more > n - i - 1) return null;
                if (i > 0 && v[i - 1] == x) return null;
                for (long k = 0; k <= more; k++) v[i++] = x;
            }
        } else {
            if (made.isEmpty()) return null;
            int w = made.get(o.at++);
            if (w < 1 || w > 8 || made.size() != 1 + n * w) return null;
            boolean wants = w == 1;
            for (int i = 0; i < n; i++) {
                for (int k = 0; k < w; k++) v[i] += (long) made.get(o.at++) << 8 * k;
                if (w < 8 && v[i] >= 1L << 8 * w - 1) v[i] -= 1L << 8 * w;
                if (w > 1 && (v[i] >= 1L << 8 * w - 9 || v[i] < -(1L << 8 * w - 9))) wants = true;
            }
            if (!wants) return null;
        }
        if (o.at != made.size()) return null;
        for (int twice = 0; twice < (coder == 2 ? 2 : coder == 1 || coder == 4 ? 1 : 0); twice++) {
            for (int i = 1; i < n; i++) v[i] = v[i - 1] + v[i];
        }
        for (long x : v) if (told(kind, x) != x) return null;
        return v;
    }

    // ---- streams

    private int newStream(List<Integer> bytes, boolean ended) {
        Stream s = new Stream();
        s.bytes.addAll(bytes);
        s.ended = ended;
        streams.add(s);
        return streams.size() - 1;
    }

    public int stream() {
        return streams.size() == 24 ? FULL : newStream(List.of(), false);
    }

    public int write(int s, int r, int coder) {
        if (!names(s, streams) || !names(r, rows)) return UNKNOWN;
        if (coder < 0 || coder > 4) return OUTSIDE;
        if (streams.get(s).ended) return STATE;
        if (rows.get(r).lost) return found(1);
        List<Integer> made = coded(coder, rows.get(r).wholes);
        List<Integer> piece = new ArrayList<>(List.of(160 + coder, rows.get(r).kind, rows.get(r).wholes.length,
                made.size() % 256, made.size() / 256));
        piece.addAll(made);
        int sum = sum(piece);
        piece.add(sum % 256);
        piece.add(sum / 256);
        if (streams.get(s).bytes.size() + piece.size() > 400) return FULL;
        streams.get(s).bytes.addAll(piece);
        return streams.get(s).bytes.size();
    }

    public int cost(int r, int coder) {
        if (!names(r, rows)) return UNKNOWN;
        if (coder < 0 || coder > 4) return OUTSIDE;
        if (rows.get(r).lost) return found(1);
        return coded(coder, rows.get(r).wholes).size();
    }

    public int best(int r) {
        if (!names(r, rows)) return UNKNOWN;
        if (rows.get(r).lost) return found(1);
        int best = 4;
        for (int c = 3; c >= 0; c--) if (cost(r, c) <= cost(r, best)) best = c;
        return best;
    }

    public int add(int s, int b) {
        if (!names(s, streams)) return UNKNOWN;
        if (streams.get(s).ended) return STATE;
        if (streams.get(s).bytes.size() == 400) return FULL;
        streams.get(s).bytes.add(Math.floorMod(b, 256));
        return streams.get(s).bytes.size();
    }

    public int end(int s) {
        if (!names(s, streams)) return UNKNOWN;
        if (streams.get(s).ended) return STATE;
        streams.get(s).ended = true;
        return streams.get(s).bytes.size();
    }

    public int about(int s, int what) {
        if (!names(s, streams)) return UNKNOWN;
        if (what < 0 || what > 3) return OUTSIDE;
        Stream stream = streams.get(s);
        return new int[] {stream.bytes.size(), stream.place, stream.ended ? 1 : 0, sum(stream.bytes)}[what];
    }

    public int at(int s, int i) {
        if (!names(s, streams)) return UNKNOWN;
        return names(i, streams.get(s).bytes) ? streams.get(s).bytes.get(i) : found(2);
    }

    public int harm(int s, int i, int mask) {
        if (!names(s, streams)) return UNKNOWN;
        if (!names(i, streams.get(s).bytes)) return found(2);
        int b = streams.get(s).bytes.get(i) ^ Math.floorMod(mask, 256);
        streams.get(s).bytes.set(i, b);
        return b;
    }

    public int seek(int s, int p) {
        if (!names(s, streams)) return UNKNOWN;
        Stream stream = streams.get(s);
        if (p < 0 || p > stream.bytes.size()) return found(2);
        int was = stream.place;
        stream.place = p;
        return was;
    }

    /** The Row of the PIECE ahead in the bytes, or the finding. */
    private static Object piece(List<Integer> ahead) {
        if (ahead.isEmpty()) return 6;
        if (ahead.size() < 7) return 7;
        int size = ahead.get(3) + 256 * ahead.get(4);
        if (ahead.size() < 7 + size) return 7;
        if (ahead.get(0) < 160 || ahead.get(0) > 164 || ahead.get(1) > 7 || ahead.get(2) > 24) return 8;
        if (sum(ahead.subList(0, 5 + size)) != ahead.get(5 + size) + 256 * ahead.get(6 + size)) return 8;
        Row row = new Row();
        row.kind = ahead.get(1);
        row.wholes = opened(ahead.get(0) - 160, row.kind, ahead.get(2), ahead.subList(5, 5 + size));
        return row.wholes == null ? (Object) 8 : row;
    }

    private static int sizeOfPiece(List<Integer> ahead) {
        return 7 + ahead.get(3) + 256 * ahead.get(4);
    }

    public int read(int s) {
        if (!names(s, streams)) return UNKNOWN;
        Stream stream = streams.get(s);
        List<Integer> ahead = stream.bytes.subList(stream.place, stream.bytes.size());
        Object piece = piece(ahead);
        if (piece instanceof Integer f) return found(f);
        if (rows.size() == 60) return FULL;
        rows.add((Row) piece);
        stream.place += sizeOfPiece(ahead);
        return rows.size() - 1;
    }

    public int pieces(int s) {
        if (!names(s, streams)) return UNKNOWN;
        List<Integer> ahead = streams.get(s).bytes;
        int n = 0;
        for (; piece(ahead) instanceof Row; n++) ahead = ahead.subList(sizeOfPiece(ahead), ahead.size());
        return n;
    }

    // ---- store, houses

    public int house() {
        if (houses.size() == 6) return FULL;
        houses.add(new TreeMap<>());
        return houses.size() - 1;
    }

    private void sweep() {
        bodies.keySet().removeIf(body -> uses(body) == 0);
    }

    public int keep(int h, long path, int s) {
        if (!names(h, houses) || !names(s, streams)) return UNKNOWN;
        if (path < 0) return OUTSIDE;
        if (!streams.get(s).ended) return STATE;
        if (houses.get(h).size() == 12 && !houses.get(h).containsKey(path)) return FULL;
        int body = -1;
        for (int b : bodies.keySet()) if (bodies.get(b).equals(streams.get(s).bytes)) body = b;
        if (body < 0) {
            if (bodies.size() == 30) return FULL;
            body = bodiesEver++;
            bodies.put(body, new ArrayList<>(streams.get(s).bytes));
        }
        houses.get(h).put(path, body);
        sweep();
        return body;
    }

    public int find(int h, long path) {
        if (!names(h, houses)) return UNKNOWN;
        return path < 0 ? OUTSIDE : houses.get(h).getOrDefault(path, NONE);
    }

    public int drop(int h, long path) {
        int body = find(h, path);
        if (body < 0) return body;
        houses.get(h).remove(path);
        sweep();
        return body;
    }

    public int list(int h, int i) {
        if (!names(h, houses)) return UNKNOWN;
        List<Long> paths = new ArrayList<>(houses.get(h).keySet());
        if (!names(i, paths)) return found(2);
        seen = paths.get(i);
        return paths.size();
    }

    public int take(int h, long path) {
        int body = find(h, path);
        if (body < 0) return body == NONE ? STATE : body;
        return streams.size() == 24 ? FULL : newStream(bodies.get(body), true);
    }

    public int uses(int body) {
        int uses = 0;
        for (TreeMap<Long, Integer> house : houses) for (int b : house.values()) if (b == body) uses++;
        return uses;
    }

    // ---- deltas

    public int delta(int a, int b) {
        if (!names(a, streams) || !names(b, streams)) return UNKNOWN;
        if (deltas.size() == 16) return FULL;
        List<Integer> from = streams.get(a).bytes, to = streams.get(b).bytes;
        Delta delta = new Delta();
        delta.size = from.size();
        delta.sum = sum(from);
        for (int p = 0; p < to.size(); ) {
            int place = -1, most = 3;
            for (int i = 0; i < from.size(); i++) {
                int k = 0;
                while (i + k < from.size() && p + k < to.size() && from.get(i + k).equals(to.get(p + k))) k++;
                if (k > most) {
                    most = k;
                    place = i;
                }
            }
            Act last = delta.acts.isEmpty() ? null : delta.acts.get(delta.acts.size() - 1);
            if (place < 0) {
                if (last == null || last.place >= 0) {
                    last = new Act();
                    delta.acts.add(last);
                }
                last.bytes.add(to.get(p++));
                last.length++;
            } else {
                Act copy = new Act();
                copy.place = place;
                copy.length = most;
                delta.acts.add(copy);
                p += most;
            }
        }
        deltas.add(delta);
        return deltas.size() - 1;
    }

    public int act(int d, int i, int what) {
        if (!names(d, deltas)) return UNKNOWN;
        if (what < 0 || what > 2) return OUTSIDE;
        List<Act> acts = deltas.get(d).acts;
        if (i == -1) {
            if (what == 0) return acts.size();
            return acts.stream().filter(a -> what == 1 == a.place >= 0).mapToInt(a -> a.length).sum();
        }
        if (!names(i, acts)) return found(2);
        Act act = acts.get(i);
        return new int[] {act.place < 0 ? 1 : 0, act.place, act.length}[what];
    }

    public int apply(int d, int s) {
        if (!names(d, deltas) || !names(s, streams)) return UNKNOWN;
        List<Integer> from = streams.get(s).bytes;
        if (from.size() != deltas.get(d).size || sum(from) != deltas.get(d).sum) return found(9);
        if (streams.size() == 24) return FULL;
        List<Integer> made = new ArrayList<>();
        for (Act act : deltas.get(d).acts) {
            made.addAll(act.place < 0 ? act.bytes : from.subList(act.place, act.place + act.length));
        }
        return newStream(made, false);
    }

    // ---- what is told

    public int finding() {
        return latest;
    }

    public int findings(int f) {
        return f < 1 || f > 9 ? OUTSIDE : found[f];
    }

    public int count(int what) {
        return switch (what) {
            case 0 -> rows.size();
            case 1 -> streams.size();
            case 2 -> bodies.size();
            case 3 -> bodiesEver;
            case 4 -> houses.size();
            case 5 -> deltas.size();
            default -> OUTSIDE;
        };
    }

    public long digest() {
        List<Long> numbers = new ArrayList<>();
        numbers.add((long) rows.size());
        for (Row row : rows) {
            numbers.add((long) row.kind);
            numbers.add(row.lost ? -1L : row.wholes.length);
            if (!row.lost) for (long v : row.wholes) numbers.add(v);
        }
        numbers.add((long) streams.size());
        for (Stream s : streams) {
            numbers.addAll(List.of((long) s.bytes.size(), (long) sum(s.bytes), (long) s.place, s.ended ? 1L : 0L));
        }
        for (TreeMap<Long, Integer> house : houses) {
            numbers.add((long) house.size());
            house.forEach((path, body) -> numbers.addAll(List.of(path, (long) body)));
        }
        numbers.add((long) deltas.size());
        long h = 19;
        for (long number : numbers) h = 31 * h + number;
        return h;
    }
}
