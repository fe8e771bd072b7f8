import java.lang.reflect.InvocationTargetException;
import java.lang.reflect.Method;
import java.lang.reflect.Modifier;
import java.util.ArrayList;
import java.util.Arrays;
import java.util.HashMap;
import java.util.List;
import java.util.Map;
import java.util.regex.Matcher;
import java.util.regex.Pattern;

/**
 * The calls of one object, written as text. A line has calls, parted by ';', and ends
 * at '//'. Forms of a call:
 *
 *   row(4, 3) = 0            the answer that is due
 *   row(4, 3)                any answer, but no refusal and no FINDING
 *   get(0, 1) -> 5           the answer is 0, and seen() tells 5 then
 *   list(0, 1) = 2 -> 5      both
 *   60 x row(0, 0) = @       60 calls; @ is 0 in the first one, @+7 is 7 there
 *
 * and of what stands for several calls:
 *
 *   numbers(r, v, ..)        put() of each, from 0 on
 *   are(r, v, ..)            these are all the NUMBERS of a ROW
 *   bytes(s, b, ..)          add() of each
 *   piece(s, mark, kind, n, b, ..)   add() of a PIECE with the right SUM
 *   has(s, b, ..)            these are all the bytes of a STREAM
 *   hasPiece(s, mark, kind, n, b, ..)   a PIECE with the right SUM is all that it has
 *
 * A number is written as Java does, as 2^40, -2^40-1, as 1.5f or -0.0d (the bits that
 * tell it), or by one of the names in NAMED.
 */
final class Script {
    /** The document promises nothing of a later call. */
    static final int MOST_CALLS = 512;

    record Step(String name, List<Long> arguments, Long due) {
        /** What the call answers; the machine must not throw. */
        long on(PackDesk x) {
            return answer(x, FACE.get(name));
        }

        long on(Model m) {
            return answer(m, MODEL.get(name));
        }

        private long answer(Object x, Method method) {
            Object[] boxed = new Object[arguments.size()];
            for (int i = 0; i < boxed.length; i++) {
                boolean wide = method.getParameterTypes()[i] == long.class;
                boxed[i] = wide ? (Object) arguments.get(i) : (Object) Math.toIntExact(arguments.get(i));
            }
            try {
                return ((Number) method.invoke(x, boxed)).longValue();
            } catch (InvocationTargetException thrown) {
                throw new IllegalStateException(this + " threw " + thrown.getCause());
            } catch (IllegalAccessException never) {
                throw new IllegalStateException(never);
            }
        }

        /** Whether the answer that is due leaves all as it was, but what is found. */
        boolean isRefused() {
            if (due == null) return false;
            return isRefusal(name, due) || due == PackDesk.NONE && (name.equals("find") || name.equals("drop"));
        }

        @Override
        public String toString() {
            String all = arguments.toString();
            return name + "(" + all.substring(1, all.length() - 1) + ")";
        }
    }

    private static final Map<String, Method> FACE = publicOnes(PackDesk.class);
    private static final Map<String, Method> MODEL = publicOnes(Model.class);
    private static final Map<String, Long> NAMED = named();
    private static final Pattern CALL = Pattern.compile("(?:(\\d+) x )?(\\w+)\\(([^)]*)\\)(?: = (\\S+))?(?: -> (\\S+))?");
    private static final Pattern POWER = Pattern.compile("(-?)2\\^(\\d+)([+-]\\d+)?");

    private Script() {
    }

    static Step call(String name, long... arguments) {
        return new Step(name, Arrays.stream(arguments).boxed().toList(), null);
    }

    private static Step due(long due, String name, long... arguments) {
        return new Step(name, Arrays.stream(arguments).boxed().toList(), due);
    }

    static boolean isRefusal(String name, long answer) {
        if (name.equals("seen") || name.equals("digest")) return false;
        return answer <= PackDesk.UNKNOWN && answer >= PackDesk.FULL || answer <= Check.NULL && answer >= Check.MISFIT;
    }

    static List<Step> steps(String text) {
        List<Step> steps = new ArrayList<>();
        for (String line : text.split("\n")) {
            for (String call : line.replaceFirst("//.*", "").split(";")) {
                if (!call.isBlank()) parse(call.strip(), steps);
            }
        }
        return steps;
    }

    private static void parse(String call, List<Step> steps) {
        Matcher m = CALL.matcher(call);
        if (!m.matches()) throw new IllegalArgumentException("no call: " + call);
        int times = m.group(1) == null ? 1 : Integer.parseInt(m.group(1));
        for (int k = 0; k < times; k++) {
            String[] written = m.group(3).isBlank() ? new String[0] : m.group(3).split(",");
            long[] arguments = new long[written.length];
            for (int i = 0; i < written.length; i++) arguments[i] = number(written[i].strip(), k);
            Long seen = m.group(5) == null ? null : Long.valueOf(number(m.group(5), k));
            Long due = m.group(4) == null ? null : Long.valueOf(number(m.group(4), k));
            if (due == null && seen != null) due = 0L;
            if (FACE.containsKey(m.group(2))) steps.add(new Step(m.group(2), Arrays.stream(arguments).boxed().toList(), due));
            else several(m.group(2), arguments, steps);
            if (seen != null) steps.add(due(seen, "seen"));
        }
    }

    private static void several(String name, long[] arguments, List<Step> steps) {
        long first = arguments[0];
        long[] rest = Arrays.copyOfRange(arguments, 1, arguments.length);
        switch (name) {
            case "numbers" -> {
                for (int i = 0; i < rest.length; i++) steps.add(due(0, "put", first, i, rest[i]));
            }
            case "are" -> {
                steps.add(due(rest.length, "length", first));
                for (int i = 0; i < rest.length; i++) {
                    steps.add(due(0, "get", first, i));
                    steps.add(due(rest[i], "seen"));
                }
            }
            case "bytes" -> append(first, rest, steps);
            case "piece" -> append(first, piece(rest), steps);
            case "has" -> have(first, rest, steps);
            case "hasPiece" -> have(first, piece(rest), steps);
            default -> throw new IllegalArgumentException("no call: " + name);
        }
    }

    private static void append(long s, long[] bytes, List<Step> steps) {
        for (long b : bytes) steps.add(call("add", s, b));
    }

    private static void have(long s, long[] bytes, List<Step> steps) {
        steps.add(due(bytes.length, "about", s, 0));
        for (int i = 0; i < bytes.length; i++) steps.add(due(bytes[i], "at", s, i));
    }

    private static long[] piece(long[] parts) {
        int[] made = new int[parts.length - 3];
        for (int i = 0; i < made.length; i++) made[i] = (int) parts[i + 3];
        return Arrays.stream(Check.piece((int) parts[0], (int) parts[1], (int) parts[2], made)).asLongStream().toArray();
    }

    private static long number(String written, int turn) {
        if (written.startsWith("@")) return turn + (written.length() == 1 ? 0 : Long.parseLong(written.substring(1)));
        if (NAMED.containsKey(written)) return NAMED.get(written);
        if (written.startsWith("0x")) return Long.parseUnsignedLong(written.substring(2), 16);
        Matcher power = POWER.matcher(written);
        if (power.matches()) {
            long of2 = 1L << Integer.parseInt(power.group(2));
            return (power.group(1).isEmpty() ? of2 : -of2) + (power.group(3) == null ? 0 : Long.parseLong(power.group(3)));
        }
        if (written.endsWith("f")) return Float.floatToIntBits(Float.parseFloat(written));
        if (written.endsWith("d")) return Double.doubleToLongBits(Double.parseDouble(written));
        return Long.parseLong(written);
    }

    private static Map<String, Long> named() {
        Map<String, Long> named = new HashMap<>();
        named.put("NONE", (long) PackDesk.NONE);
        named.put("UNKNOWN", (long) PackDesk.UNKNOWN);
        named.put("OUTSIDE", (long) PackDesk.OUTSIDE);
        named.put("STATE", (long) PackDesk.STATE);
        named.put("FULL", (long) PackDesk.FULL);
        String[] findings = {"NULL", "INDEX", "CAST", "SIZE", "ZERO", "ENDS", "SHORT", "HARMED", "MISFIT"};
        for (int f = 1; f <= 9; f++) named.put(findings[f - 1], -10L - f);
        named.put("MIN", (long) Integer.MIN_VALUE);
        named.put("MAX", (long) Integer.MAX_VALUE);
        named.put("LMIN", Long.MIN_VALUE);
        named.put("LMAX", Long.MAX_VALUE);
        named.put("-MAX", -(long) Integer.MAX_VALUE);
        named.put("-LMAX", -Long.MAX_VALUE);
        named.put("GAPf", 0x7FC00000L);
        named.put("GAPd", 0x7FF8000000000000L);
        float[] floats = {Float.POSITIVE_INFINITY, Float.MIN_VALUE, Float.MAX_VALUE};
        double[] doubles = {Double.POSITIVE_INFINITY, Double.MIN_VALUE, Double.MAX_VALUE};
        String[] names = {"ENDLESS", "LEAST", "MOST"};
        for (int k = 0; k < 3; k++) {
            named.put(names[k] + "f", (long) Float.floatToIntBits(floats[k]));
            named.put("-" + names[k] + "f", (long) Float.floatToIntBits(-floats[k]));
            named.put(names[k] + "d", Double.doubleToLongBits(doubles[k]));
            named.put("-" + names[k] + "d", Double.doubleToLongBits(-doubles[k]));
        }
        return named;
    }

    private static Map<String, Method> publicOnes(Class<?> type) {
        Map<String, Method> methods = new HashMap<>();
        for (Method method : type.getDeclaredMethods()) {
            if (Modifier.isPublic(method.getModifiers())) methods.put(method.getName(), method);
        }
        return methods;
    }

    /** Makes the calls on a new object; what was refused is looked at by Twins, too. */
    static void run(String what, String text) {
        List<Step> steps = steps(text);
        Check.holds(what + ": " + steps.size() + " calls are 512 at most", steps.size() <= MOST_CALLS);
        PackDesk x = new PackDesk();
        for (int k = 0; k < steps.size(); k++) {
            Step step = steps.get(k);
            long got = step.on(x);
            String call = what + ": call " + (k + 1) + ", " + step;
            if (step.due == null) Check.holds(call + " answered " + got, !isRefusal(step.name, got));
            else Check.due(call, got, step.due);
            if (step.isRefused()) Twins.areAlike(call, steps.subList(0, k), step);
        }
    }
}
