import java.lang.reflect.Method;
import java.lang.reflect.Modifier;
import java.util.ArrayList;
import java.util.Arrays;
import java.util.Comparator;
import java.util.List;
import java.util.Random;
import java.util.TreeMap;

/** Long runs of mixed calls, each answered by PackDesk and by Model; every run is made from its own seed. */
public final class RandomRunsTest {
    private static final int RUNS = 3000, CALLS = 512;
    private static final long[] WORDS = {
        0, 1, -1, 2, -2, 3, 63, 64, 127, 128, -128, -129, 255, 256, 32767, 32768, -32768, 65535, 65536,
        Integer.MAX_VALUE, Integer.MIN_VALUE, Long.MAX_VALUE, Long.MIN_VALUE, 1L << 32, 1L << 40, -(1L << 55),
        0x3F000000L, 0xBF000000L, 0x3FC00000L, 0x40200000L, 0xC0200000L, 0x7F800000L, 0xFF800000L, 0x7F800001L, 0xFFFFFFFFL,
        0x3FE0000000000000L, 0xBFE0000000000000L, 0x3FF8000000000000L, 0x4004000000000000L, 0xC004000000000000L,
        0x7FF0000000000000L, 0xFFF0000000000000L, 0x7FF0000000000001L, 0x433FFFFFFFFFFFFFL, 0x4B7FFFFFL
    };

    private final Random random;
    private final PackDesk desk = new PackDesk();
    private final Model model = new Model();
    private final List<String> calls = new ArrayList<>();
    private final List<Method> methods;
    private final List<String> names = new ArrayList<>();
    private boolean same = true;

    private RandomRunsTest(long seed, List<Method> methods) {
        this.random = new Random(seed);
        this.methods = methods;
    }

    private static List<Method> face() {
        List<Method> face = new ArrayList<>(List.of(PackDesk.class.getDeclaredMethods()));
        face.removeIf(method -> !Modifier.isPublic(method.getModifiers()));
        face.sort(Comparator.comparing(Method::getName));
        return face;
    }

    /** Each run has its own mix of calls, that some go far into what others hardly touch. */
    private void mix() {
        for (Method method : methods) {
            int often = random.nextInt(4) == 0 ? 12 : random.nextInt(4);
            if (method.getParameterCount() == 0) often = (often + 3) / 4;
            for (int k = 0; k < often; k++) names.add(method.getName());
        }
        names.add("count");
    }

    private int near(int size) {
        if (random.nextInt(25) == 0) return new int[] {-1, size, size + 1, Integer.MAX_VALUE, Integer.MIN_VALUE}[random.nextInt(5)];
        return size == 0 ? 0 : random.nextInt(size);
    }

    private long word() {
        int which = random.nextInt(10);
        if (which < 6) return WORDS[random.nextInt(WORDS.length)];
        if (which < 8) return random.nextInt(20) - 10;
        return which == 8 ? random.nextLong() : Float.floatToIntBits(random.nextFloat() * 100 - 50);
    }

    private long path() {
        int which = random.nextInt(20);
        return which == 0 ? -1 : which == 1 ? Long.MAX_VALUE : random.nextInt(14);
    }

    private Object[] arguments(String name) {
        int row = near(model.count(0)), stream = near(model.count(1)), house = near(model.count(4)), delta = near(model.count(5));
        int size = model.sizeOfRow(row), place = near(size), other = near(size);
        int byteAt = near(Math.max(0, model.about(stream, 0)));
        return switch (name) {
            case "row" -> new Object[] {near(8), near(random.nextInt(6) == 0 ? 25 : 8)};
            case "lose" -> new Object[] {random.nextInt(6) == 0 ? row : -1};
            case "kind", "length", "best" -> new Object[] {row};
            case "put" -> new Object[] {row, place, word()};
            case "get" -> new Object[] {row, place};
            case "copy" -> {
                int to = random.nextInt(3) == 0 ? row : near(model.count(0));
                yield new Object[] {row, place, to, near(model.sizeOfRow(to)), near(random.nextInt(6))};
            }
            case "compare", "rest" -> new Object[] {row, place, other};
            case "shape" -> new Object[] {row, place, near(6)};
            case "most" -> new Object[] {row, near(3)};
            case "write" -> new Object[] {stream, row, near(5)};
            case "cost" -> new Object[] {row, near(5)};
            case "add" -> new Object[] {stream, random.nextInt(3) == 0 ? random.nextInt() : random.nextInt(3)};
            case "end" -> new Object[] {random.nextInt(3) == 0 ? -1 : stream};
            case "about" -> new Object[] {stream, near(4)};
            case "at" -> new Object[] {stream, byteAt};
            case "harm" -> new Object[] {stream, byteAt, random.nextInt(2) == 0 ? 1 << random.nextInt(8) : random.nextInt()};
            case "seek" -> new Object[] {stream, random.nextInt(4) == 0 ? byteAt : 0};
            case "read", "pieces" -> new Object[] {stream};
            case "keep" -> new Object[] {house, path(), stream};
            case "find", "drop", "take" -> new Object[] {house, path()};
            case "list" -> new Object[] {house, near(random.nextInt(4))};
            case "uses" -> new Object[] {near(model.count(3))};
            case "delta" -> new Object[] {stream, near(model.count(1))};
            case "act" -> new Object[] {delta, random.nextInt(4) == 0 ? -1 : near(6), near(3)};
            case "apply" -> new Object[] {delta, stream};
            case "findings" -> new Object[] {near(10)};
            case "count" -> new Object[] {near(6)};
            default -> new Object[] {};
        };
    }

    private void call(String name, Object... arguments) throws ReflectiveOperationException {
        if (calls.size() == CALLS) return;
        Method method = methods.stream().filter(m -> m.getName().equals(name)).findFirst().orElseThrow();
        long got = ((Number) method.invoke(desk, arguments)).longValue();
        long want = ((Number) Model.class.getMethod(name, method.getParameterTypes()).invoke(model, arguments)).longValue();
        calls.add(name + Arrays.toString(arguments) + " answered " + got + ", due is " + want);
        same &= got == want;
    }

    /** Bytes that look like a PIECE, most with the right SUM, come behind a STREAM by add(). */
    private void forge() throws ReflectiveOperationException {
        int s = near(model.count(1));
        int kind = random.nextInt(8), n = random.nextInt(6), coder = random.nextInt(5);
        long[] wholes = new long[n];
        for (int i = 0; i < n; i++) wholes[i] = random.nextInt(4) == 0 && i > 0 ? wholes[i - 1] : Model.told(random.nextInt(20) == 0 ? 5 : kind, word());
        List<Integer> made = new ArrayList<>(Model.coded(coder, wholes));
        switch (random.nextInt(5)) {
            case 0 -> made.add(random.nextInt(256));
            case 1 -> { if (!made.isEmpty()) made.remove(made.size() - 1); }
            case 2 -> { if (!made.isEmpty()) made.set(random.nextInt(made.size()), random.nextInt(256)); }
            default -> { }
        }
        int[] bytes = made.stream().mapToInt(Integer::intValue).toArray();
        int mark = 160 + (random.nextInt(12) == 0 ? random.nextInt(96) : coder);
        for (int b : Check.piece(mark, random.nextInt(12) == 0 ? near(9) & 255 : kind, random.nextInt(12) == 0 ? n + 1 : n, bytes)) call("add", s, b);
        if (random.nextInt(3) > 0) call("seek", s, Math.max(0, model.about(s, 0) - bytes.length - 7));
        call("read", s);
    }

    private void run() throws ReflectiveOperationException {
        mix();
        int start = 1 + random.nextInt(6);
        int floating = random.nextInt(3) == 0 ? 6 : 0;
        for (int k = 0; k < start; k++) {
            call("row", floating + random.nextInt(8 - floating), random.nextInt(10));
            call("stream");
        }
        call("house");
        while (calls.size() < CALLS - 2 && same) {
            if (random.nextInt(60) == 0) {
                forge();
            } else {
                String name = names.get(random.nextInt(names.size()));
                call(name, arguments(name));
            }
            if (same && random.nextInt(3) == 0) call("seen");
            if (same && random.nextInt(6) == 0) call("digest");
        }
        if (same) call("seen");
        if (same) call("digest");
    }

    public static void main(String[] args) throws ReflectiveOperationException {
        List<Method> face = face();
        long all = 0;
        TreeMap<String, Integer> answers = new TreeMap<>();
        for (int seed = 0; seed < RUNS && Check.wrong() < 3; seed++) {
            RandomRunsTest run = new RandomRunsTest(seed, face);
            run.run();
            all += run.calls.size();
            Check.holds("run " + seed + ": its call " + run.calls.size() + ": " + run.calls.get(run.calls.size() - 1), run.same);
            for (String call : run.calls) {
                String answer = call.substring(call.indexOf("due is ") + 7);
                String key = call.substring(0, call.indexOf('['))
                        + (answer.startsWith("-1") && answer.length() <= 4 && !answer.equals("-1") ? " " + answer : "");
                answers.merge(key, 1, Integer::sum);
            }
        }
        if (args.length > 0) answers.forEach((key, n) -> System.out.println(key + ": " + n));
        System.out.println("  " + all + " calls");
        Check.finish();
    }
}
