/** Promise 21: told. */
public final class Promise21Test extends Edges {
    public static void main(String[] args) {
        runs(Promise21Test.class, args);
    }

    static void promise21_theLeastWhatAndTheGreatest() {
        asked(FIVE, "told(0)", 0);
        asked(FIVE, "told(4)", 1);
    }

    static void promise21_BAD_what() {
        badOutside(NEW, "told(#)", 0, 4);
        badOutside(FIVE, "told(#)", 0, 4);
    }

    static void promise21_itsOwnRefusalCounts() {
        Check.due("told(0)", NEW.and("told(-1)").ask("told(0)"), 1);
        Check.due("told(0)", NEW.and("told(5)", "told(least)", "told(most)").ask("told(0)"), 3);
    }

    static void promise21_nothingIsRefusedAtFirst() {
        for (int what = 0; what <= 4; what++) asked(NEW, "told(" + what + ")", 0);
    }

    static void promise21_eachRefusalCountsForItself() {
        Run run = MOST.text("0");
        Check.due("BAD", run.and("all(7)").refusals(), "1 0 0");
        Check.due("NO", run.and("takeOut()").refusals(), "0 1 0");
        Check.due("FULL", run.and("add()").refusals(), "0 0 1");
        Check.due("all", run.and("add()", "add()", "takeOut()", "add()", "all(7)", "takeOut()").refusals(), "1 2 3");
    }

    static void promise21_FULLOfBytesAndOfWords() {
        Run run = MOST.text("a".repeat(120));
        Check.due("bytes", run.and("type(97)").refusals(), "0 0 1");
        Check.due("and words", run.and("type(97)").text("0").and("add()").refusals(), "0 0 2");
    }

    static void promise21_everyCallThatCanBeBAD() {
        String[] calls = {"type(-1)", "draw(-1, 1, 1, 1)", "deals(3)", "finds(3)", "way(2, 0)", "looks(3, 0)", "begins(2)", "between(5)", "sign(5, 0)",
            "parts(4)", "page(3, 0)", "fork(3, 0, 0)", "all(7)", "told(5)"};
        Run run = FIVE.text("q");
        for (int i = 0; i < calls.length; i++) {
            Check.due(calls[i], run.ask(calls[i]), BAD);
            run = run.and(calls[i]);
            Check.due("refused", run.refusals(), (i + 1) + " 0 0");
        }
    }

    static void promise21_everyCallThatCanBeNO() {
        String[] calls = {"add()", "takeOut()", "finds(0)", "way(0, 0)", "looks(0, 0)", "begins(0)", "between(0)"};
        Run run = FIVE.text("");
        for (int i = 0; i < calls.length; i++) {
            Check.due(calls[i], run.ask(calls[i]), NO);
            run = run.and(calls[i]);
            Check.due("refused", run.refusals(), "0 " + (i + 1) + " 0");
        }
        Check.due("back()", NEW.ask("back()"), NO);
        Check.due("refused", NEW.and("back()").refusals(), "0 1 0");
    }

    static void promise21_NONEIsNoRefusal() {
        Run run = ONE.text("m").and("sign(0, 1)", "page(0, 4)", "all(6)", "way(0, 3)", "looks(0, 1)");
        Check.due("refused", run.refusals(), "0 0 0");
    }

    static void promise21_aFaultIsNoRefusal() {
        Check.due("refused", NEW.and("does()").text("+a").and("does()").refusals(), "0 0 0");
    }

    static void promise21_bytesFrom0To120() {
        asked(NEW, "told(3)", 0);
        asked(NEW.text("a"), "told(3)", 1);
        asked(NEW.text("a".repeat(120)), "told(3)", 120);
        asked(NEW.text("a".repeat(120)).and("type(97)"), "told(3)", 120);
        asked(NEW.text("abc").and("type(128)"), "told(3)", 3);
    }

    static void promise21_statesFrom0To6() {
        Run run = NEW;
        for (int i = 0; i <= 8; i++) {
            asked(run, "told(4)", Math.min(i, 6));
            run = run.and("anew()");
        }
    }

    /** As often as can be asked of an object: the 512th call is promised yet. */
    static void promise21_511Refusals() {
        Check.due("told(0)", NEW.times(511, "all(7)").ask("told(0)"), 511);
        Check.due("told(1)", NEW.times(511, "back()").ask("told(1)"), 511);
        Check.due("told(2)", NEW.text("a".repeat(120)).times(390, "type(97)").ask("told(2)"), 390);
    }
}
