import java.lang.reflect.InvocationTargetException;
import java.lang.reflect.Method;
import java.util.ArrayList;
import java.util.HashMap;
import java.util.List;
import java.util.Map;

/**
 * A run of calls that can be made again on a new object. An object is promised for 512 calls only, so what a run leads
 * to is asked of as many objects as it takes.
 *
 * A step is a call, "fork(0, 1, 2)", or behind a ' a text that THE TEXT becomes. The words least and most stand for the
 * least and the greatest int.
 */
final class Run {
    private static final int MOST_CALLS = 512;
    private static final Map<String, Method> METHODS = methods();

    private final List<String> steps;

    Run() {
        this(List.of());
    }

    private Run(List<String> steps) {
        this.steps = steps;
    }

    private static Map<String, Method> methods() {
        Map<String, Method> all = new HashMap<>();
        for (Method m : BlindPages.class.getDeclaredMethods()) all.put(m.getName(), m);
        return all;
    }

    // ---- runs made longer

    Run and(String... more) {
        List<String> all = new ArrayList<>(steps);
        all.addAll(List.of(more));
        return new Run(all);
    }

    Run times(int n, String call) {
        List<String> all = new ArrayList<>(steps);
        for (int i = 0; i < n; i++) all.add(call);
        return new Run(all);
    }

    Run text(String s) {
        return and("'" + s);
    }

    Run does(String orders) {
        return text(orders).and("does()");
    }

    /** Adds words in turn by as few texts as can be. */
    Run words(String... words) {
        Run run = this;
        StringBuilder s = new StringBuilder();
        for (String w : words) {
            if (s.length() + w.length() + 2 > 120) {
                run = run.does(s.toString());
                s.setLength(0);
            }
            s.append('+').append(w).append(';');
        }
        return s.length() == 0 ? run : run.does(s.toString());
    }

    /** Adds each sign, a word, in turn. */
    Run signs(String signs) {
        return words(signs.isEmpty() ? new String[0] : signs.split(""));
    }

    Run takesOut(String signs) {
        Run run = this;
        for (String sign : signs.split("")) run = run.text(sign).and("takeOut()");
        return run;
    }

    // ---- an object at the end of the run

    private static final class Made {
        final BlindPages x = new BlindPages();
        int calls = 0;

        long ask(String call) {
            if (calls == MOST_CALLS) throw new IllegalStateException("more than " + MOST_CALLS + " calls of one object");
            calls++;
            int open = call.indexOf('(');
            String inside = call.substring(open + 1, call.length() - 1);
            String[] told = inside.isEmpty() ? new String[0] : inside.split(", *");
            Object[] numbers = new Object[told.length];
            for (int i = 0; i < told.length; i++) numbers[i] = number(told[i]);
            try {
                return ((Number) METHODS.get(call.substring(0, open)).invoke(x, numbers)).longValue();
            } catch (InvocationTargetException e) {
                throw new IllegalStateException(call + " threw", e.getCause());
            } catch (IllegalAccessException e) {
                throw new IllegalStateException(call, e);
            }
        }

        void step(String step) {
            if (!step.startsWith("'")) {
                ask(step);
                return;
            }
            ask("clear()");
            for (char c : step.substring(1).toCharArray()) ask("type(" + (int) c + ")");
        }
    }

    private static int number(String s) {
        if (s.equals("least")) return Integer.MIN_VALUE;
        return s.equals("most") ? Integer.MAX_VALUE : Integer.parseInt(s);
    }

    private Made made() {
        Made made = new Made();
        for (String step : steps) made.step(step);
        return made;
    }

    /** What the call answers as the next one behind the run. */
    long ask(String call) {
        return made().ask(call);
    }

    /** Questions, each answered as the first one behind the run: such as change nothing. */
    private final class Questions {
        private Made at = made();

        long ask(String call) {
            if (at.calls == MOST_CALLS) at = made();
            return at.ask(call);
        }

        String row(String open, int most) {
            StringBuilder s = new StringBuilder();
            for (int what = 0; what <= most; what++) s.append(what == 0 ? "" : " ").append(ask(open + what + ")"));
            return s.toString();
        }
    }

    // ---- what the run leads to

    /** The index whole: all(), each page with its forks, the words. */
    String facts() {
        Questions q = new Questions();
        StringBuilder s = new StringBuilder("all " + q.row("all(", 6));
        long pages = q.ask("all(1)"), words = q.ask("all(0)");
        for (int p = 0; p < pages; p++) {
            s.append(", page ").append(q.row("page(" + p + ", ", 6));
            long forks = q.ask("page(" + p + ", 1)") - 1;
            for (int f = 0; f < forks; f++) s.append(", fork ").append(q.row("fork(" + p + ", " + f + ", ", 3));
        }
        for (int k = 0; k < words; k++) s.append(' ').append(word(q, k));
        return s.toString();
    }

    /** The values of the digest, in its order. */
    List<Long> values() {
        List<Long> v = new ArrayList<>();
        Questions q = new Questions();
        for (int what = 0; what <= 4; what++) v.add(q.ask("told(" + what + ")"));
        for (int what = 0; what <= 6; what++) v.add(q.ask("all(" + what + ")"));
        for (int p = 0; p < q.ask("all(1)"); p++) {
            for (int what = 0; what <= 6; what++) v.add(q.ask("page(" + p + ", " + what + ")"));
            for (int f = 0; f < q.ask("page(" + p + ", 1)") - 1; f++) {
                for (int what = 0; what <= 2; what++) v.add(q.ask("fork(" + p + ", " + f + ", " + what + ")"));
            }
        }
        for (int k = 0; k < q.ask("all(0)"); k++) for (char c : word(q, k).toCharArray()) v.add((long) c);
        return v;
    }

    String word(int k) {
        return word(new Questions(), k);
    }

    private static String word(Questions q, int k) {
        StringBuilder s = new StringBuilder();
        for (int i = 0; i < 25; i++) {
            long sign = q.ask("sign(" + k + ", " + i + ")");
            if (sign < 0) break;
            s.append((char) sign);
        }
        return s.toString();
    }

    /** The words in order, those of each page of level 0 apart: "a,b d,e". */
    String words() {
        Questions q = new Questions();
        StringBuilder s = new StringBuilder();
        long pages = q.ask("all(1)");
        for (int p = 0; p < pages; p++) {
            if (q.ask("page(" + p + ", 0)") > 0) continue;
            if (s.length() > 0) s.append(' ');
            long entries = q.ask("page(" + p + ", 1)"), first = q.ask("page(" + p + ", 3)");
            for (int i = 0; i < entries; i++) s.append(i > 0 ? "," : "").append(word(q, (int) first + i));
        }
        return s.toString();
    }

    /** How many entries the pages have, level by level down: "2|3 2". */
    String shape() {
        Questions q = new Questions();
        StringBuilder s = new StringBuilder();
        long pages = q.ask("all(1)"), above = BlindPages.NONE;
        for (int p = 0; p < pages; p++) {
            long level = q.ask("page(" + p + ", 0)");
            if (p > 0) s.append(level == above ? ' ' : '|');
            s.append(q.ask("page(" + p + ", 1)"));
            above = level;
        }
        return s.toString();
    }

    /** How often refused. */
    String refusals() {
        return new Questions().row("told(", 2);
    }

    long states() {
        return ask("told(4)");
    }

    /** Each state that can be gone back to, the newest first. */
    List<String> past() {
        List<String> all = new ArrayList<>();
        long states = states();
        for (int i = 1; i <= states; i++) all.add(times(i, "back()").facts());
        return all;
    }

    /** What can be told of THE TEXT: its length, its fault, and what it adds to an index without words. */
    String textFacts() {
        Run alone = and("anew()");
        String word = alone.ask("add()") + " " + alone.and("add()").words();
        return ask("told(3)") + " " + word + " " + alone.ask("does()") + " " + alone.and("does()").words();
    }
}
