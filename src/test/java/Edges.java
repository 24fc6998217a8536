import java.lang.reflect.InvocationTargetException;
import java.lang.reflect.Method;
import java.lang.reflect.Modifier;
import java.util.ArrayList;
import java.util.Comparator;
import java.util.List;

/**
 * What the tests of the boundary cases share. Each case is a static method, named after the promise (or the part of
 * the terms) and the case; all of a class are run by their names.
 */
abstract class Edges {
    static final int NONE = BlindPages.NONE, BAD = BlindPages.BAD, NO = BlindPages.NO, FULL = BlindPages.FULL;
    /** 48 of them, in order. */
    static final String SIGNS_48 = "EFGHIJKLMNOPQRSTUVWXYZabcdefghijklmnopqrstuvwxyz";
    static final String A23 = "aaaaaaaaaaaaaaaaaaaaaaa";
    static final String A24 = A23 + "a";
    static final String[] NO_WORDS = {"", "a;", "+a;", "a b", " a", "a ", "-", "a\0", A24 + "a"};

    static final Run NEW = new Run();
    /** One page of one entry. */
    static final Run ONE = NEW.words("m");
    /** b d f | h j. */
    static final Run FIVE = NEW.signs("bdfhj");
    /** As many words as may be, on four levels. */
    static final Run MOST = NEW.signs(SIGNS_48);

    /** Runs every case of the class, or those named, and ends the program with 1 if an answer was wrong. */
    static void runs(Class<?> cases, String... names) {
        wrongIn(cases, names);
        Check.end();
    }

    static int wrongIn(Class<?> cases, String... names) {
        List<String> named = List.of(names);
        List<Method> all = new ArrayList<>();
        for (Method m : cases.getDeclaredMethods()) {
            boolean isCase = m.getName().matches("(promise|terms|rule)\\d+_.*|(face|readme)_.*") && Modifier.isStatic(m.getModifiers());
            if (isCase && (named.isEmpty() || named.contains(m.getName()))) all.add(m);
        }
        all.sort(Comparator.comparing(Method::getName));
        for (Method m : all) runs(m);
        Check.begin(cases.getName());
        if (named.isEmpty()) Check.due("has cases", all.isEmpty() ? 0 : 1, 1);
        else Check.due("cases so named", all.size(), named.size());
        return Check.wrong();
    }

    private static void runs(Method one) {
        Check.begin(one.getName());
        int before = Check.asked();
        try {
            one.setAccessible(true);
            one.invoke(null);
        } catch (InvocationTargetException e) {
            Check.due("it ends", e.getCause() + " " + e.getCause().getCause(), "nothing thrown");
        } catch (IllegalAccessException e) {
            throw new IllegalStateException(e);
        }
        Check.due("asks something", Check.asked() > before ? 1 : 0, 1);
    }

    // ---- ways to hold a call to the document

    /** A call that is taken and leaves all as it was. */
    static void asked(Run run, String call, long want) {
        Check.due(call, run.ask(call), want);
        Check.due(call + ", how often refused", run.and(call).refusals(), run.refusals());
        unchanged(run, call);
    }

    /** A refused call: its answer; nothing is changed but how often, by one. */
    static void refused(Run run, String call, int want) {
        Check.due(call, run.ask(call), want);
        String[] counts = run.refusals().split(" ");
        counts[BAD - want] = Integer.toString(Integer.parseInt(counts[BAD - want]) + 1);
        Check.due(call + ", how often refused", run.and(call).refusals(), String.join(" ", counts));
        unchanged(run, call);
    }

    /** In the pattern # stands for a number that is told as least .. most: those next to it and the furthest are BAD. */
    static void badOutside(Run run, String pattern, int least, int most) {
        badBelow(run, pattern, least);
        badAbove(run, pattern, most);
    }

    static void badBelow(Run run, String pattern, int least) {
        refused(run, pattern.replace("#", Integer.toString(least - 1)), BAD);
        refused(run, pattern.replace("#", "least"), BAD);
    }

    static void badAbove(Run run, String pattern, int most) {
        refused(run, pattern.replace("#", Integer.toString(most + 1)), BAD);
        refused(run, pattern.replace("#", "most"), BAD);
    }

    /** A call told S: its answer; it leaves the state ahead of it to go back to, 6 at most; THE TEXT stays. */
    static void leavesAState(Run run, String call, long want) {
        Run after = run.and(call);
        Check.due(call, run.ask(call), want);
        Check.due(call + ", how often refused", after.refusals(), run.refusals());
        Check.due(call + ", the text", after.textFacts(), run.textFacts());
        List<String> due = new ArrayList<>(run.past());
        due.add(0, run.facts());
        Check.due(call + ", states", after.states(), Math.min(due.size(), 6));
        Check.due(call + ", what can be gone back to", after.past().toString(), due.subList(0, Math.min(due.size(), 6)).toString());
    }

    private static void unchanged(Run run, String call) {
        Run after = run.and(call);
        Check.due(call + ", the index", after.facts(), run.facts());
        Check.due(call + ", the text", after.textFacts(), run.textFacts());
        Check.due(call + ", the states", after.past().toString(), run.past().toString());
    }

    /** Answers of a call one behind another, for # 0, 1, .. */
    static void row(Run run, String pattern, long... want) {
        for (int i = 0; i < want.length; i++) {
            String call = pattern.replace("#", Integer.toString(i));
            Check.due(call, run.ask(call), want[i]);
        }
    }
}
