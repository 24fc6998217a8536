/** Promise 9: anew. */
public final class Promise09Test extends Edges {
    public static void main(String[] args) {
        runs(Promise09Test.class, args);
    }

    static void promise9_withoutWordsThereWere0() {
        leavesAState(NEW, "anew()", 0);
        leavesAState(NEW.and("anew()"), "anew()", 0);
    }

    static void promise9_thereWere1And48() {
        leavesAState(ONE, "anew()", 1);
        leavesAState(MOST.text("q"), "anew()", 48);
    }

    static void promise9_noWordsAndNoPages() {
        Run run = MOST.and("anew()");
        asked(run, "all(0)", 0);
        asked(run, "all(1)", 0);
        asked(run, "all(2)", 0);
        asked(run, "all(4)", 0);
        asked(run, "all(5)", 0);
        asked(run, "all(6)", NONE);
        refused(run, "page(0, 0)", BAD);
        refused(run, "sign(0, 0)", BAD);
        Check.due("a first word", run.text("m").and("add()").words(), "m");
    }

    static void promise9_MIs4() {
        for (int m = 4; m <= 8; m++) {
            asked(NEW.and("deals(" + m + ")", "anew()"), "all(3)", 4);
            asked(FIVE.and("deals(" + m + ")", "anew()"), "all(3)", 4);
        }
        Check.due("a fifth word splits", NEW.and("deals(8)", "anew()").signs("abcde").shape(), "2|3 2");
    }

    static void promise9_theTextStays() {
        Run run = FIVE.text("abc").and("anew()");
        asked(run, "told(3)", 3);
        Check.due("the text is a word yet", run.and("add()").words(), "abc");
        asked(FIVE.text("a".repeat(120)).and("anew()"), "told(3)", 120);
        asked(FIVE.text("").and("anew()"), "told(3)", 0);
    }

    /** It leaves a state to go back to, so the states ahead of it are there yet. */
    static void promise9_theStatesStay() {
        Run run = NEW.text("a").and("add()").text("b").and("add()", "anew()");
        asked(run, "told(4)", 3);
        Check.due("back", run.and("back()").words(), "a,b");
        Check.due("back twice", run.and("back()", "back()").words(), "a");
    }

    static void promise9_howOftenRefusedStays() {
        Run run = FIVE.text("b").and("add()", "all(7)", "all(-1)");
        Check.due("before", run.refusals(), "2 1 0");
        Check.due("behind", run.and("anew()").refusals(), "2 1 0");
    }

    static void promise9_the6thStateAndThe7th() {
        Run run = FIVE;
        for (int i = 0; i < 8; i++) {
            leavesAState(run, "anew()", i == 0 ? 5 : 0);
            run = run.and("anew()");
            Check.due("states", run.states(), Math.min(i + 2, 6));
        }
    }
}
