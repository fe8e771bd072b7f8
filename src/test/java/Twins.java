import java.util.ArrayList;
import java.util.List;
import java.util.function.Function;

/**
 * Two objects with the same calls behind them, but that one has been refused a call
 * more. "With one all is as it was, but what finding(), findings() tell": whatever
 * they are asked then, they answer alike. Each question is put to new twins, so that
 * none of them gets more than 512 calls.
 */
final class Twins {
    private static final List<Function<Model, List<Script.Step>>> QUESTIONS =
            List.of(Twins::whatIsTold, Twins::rows, Twins::streams, Twins::houses, Twins::deltas, Twins::whatComesNext);

    private Twins() {
    }

    static void areAlike(String what, List<Script.Step> before, Script.Step refused) {
        findingsAreCounted(what, before, refused);
        for (Function<Model, List<Script.Step>> question : QUESTIONS) {
            PackDesk one = after(before), other = after(before);
            refused.on(one);
            int left = Script.MOST_CALLS - before.size() - 1;
            for (Script.Step step : question.apply(modelAfter(before))) {
                if (left-- <= 0) break;
                Check.due(what + " was refused; then " + step, step.on(one), step.on(other));
            }
        }
    }

    private static PackDesk after(List<Script.Step> steps) {
        PackDesk x = new PackDesk();
        for (Script.Step step : steps) step.on(x);
        return x;
    }

    /** The model tells what there is to be asked about, as it has no limit of calls. */
    private static Model modelAfter(List<Script.Step> steps) {
        Model m = new Model();
        for (Script.Step step : steps) step.on(m);
        return m;
    }

    private static void findingsAreCounted(String what, List<Script.Step> before, Script.Step refused) {
        if (before.size() + 11 > Script.MOST_CALLS) return;
        PackDesk one = after(before), other = after(before);
        refused.on(one);
        long f = refused.due() >= Check.MISFIT && refused.due() <= Check.NULL ? -10 - refused.due() : 0;
        Check.due(what + " was refused; then finding()", one.finding(), f == 0 ? other.finding() : f);
        for (int g = 1; g <= 9; g++) {
            Check.due(what + " was refused; then findings(" + g + ")", one.findings(g), other.findings(g) + (g == f ? 1 : 0));
        }
    }

    private static List<Script.Step> whatIsTold(Model m) {
        List<Script.Step> steps = new ArrayList<>(List.of(Script.call("seen"), Script.call("digest")));
        for (int what = 0; what <= 5; what++) steps.add(Script.call("count", what));
        return steps;
    }

    private static List<Script.Step> rows(Model m) {
        List<Script.Step> steps = new ArrayList<>();
        for (int r = 0; r < m.count(0); r++) {
            steps.add(Script.call("kind", r));
            steps.add(Script.call("length", r));
            for (int i = 0; i < m.length(r); i++) {
                steps.add(Script.call("get", r, i));
                steps.add(Script.call("seen"));
            }
        }
        return steps;
    }

    private static List<Script.Step> streams(Model m) {
        List<Script.Step> steps = new ArrayList<>();
        for (int s = 0; s < m.count(1); s++) {
            for (int what = 0; what <= 3; what++) steps.add(Script.call("about", s, what));
        }
        for (int s = 0; s < m.count(1); s++) {
            for (int i = 0; i < m.about(s, 0); i++) steps.add(Script.call("at", s, i));
        }
        return steps;
    }

    private static List<Script.Step> houses(Model m) {
        List<Script.Step> steps = new ArrayList<>();
        for (int body = 0; body < m.count(3); body++) steps.add(Script.call("uses", body));
        for (int h = 0; h < m.count(4); h++) {
            for (int i = 0; m.list(h, i) > i; i++) {
                steps.add(Script.call("list", h, i));
                steps.add(Script.call("seen"));
                steps.add(Script.call("find", h, m.seen()));
            }
        }
        return steps;
    }

    private static List<Script.Step> deltas(Model m) {
        List<Script.Step> steps = new ArrayList<>();
        for (int d = 0; d < m.count(5); d++) {
            for (int i = -1; i < m.act(d, -1, 0); i++) {
                for (int what = 0; what <= 2; what++) steps.add(Script.call("act", d, i, what));
            }
        }
        return steps;
    }

    /** What is new gets the same numbers, and what is made anew of the old is the same. */
    private static List<Script.Step> whatComesNext(Model m) {
        List<Script.Step> steps = new ArrayList<>(List.of(Script.call("row", 4, 1), Script.call("stream"), Script.call("house")));
        int streams = m.count(1);
        for (int s = 0; s < streams; s++) {
            steps.add(Script.call("pieces", s));
            steps.add(Script.call("read", s));
            steps.add(Script.call("keep", 0, 1000 + s, s));
            if (s == 0) steps.add(Script.call("delta", 0, streams - 1));
            for (int d = 0; d < m.count(5); d++) steps.add(Script.call("apply", d, s));
        }
        for (int h = 0; h < m.count(4); h++) {
            for (int i = 0; m.list(h, i) > i; i++) steps.add(Script.call("take", h, m.seen()));
        }
        steps.add(Script.call("digest"));
        return steps;
    }
}
