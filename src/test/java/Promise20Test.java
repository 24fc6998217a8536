/** Promise 20: back; with it the STATES. */
public final class Promise20Test extends Edges {
    public static void main(String[] args) {
        runs(Promise20Test.class, args);
    }

    /** So many words, each by an add of its own. */
    private static Run adds(int n) {
        Run run = NEW;
        for (int i = 0; i < n; i++) run = run.text("abcdefghijklm".substring(i, i + 1)).and("add()");
        return run;
    }

    static void promise20_NO_noneAtFirst() {
        refused(NEW, "back()", NO);
        refused(NEW.text("q"), "back()", NO);
    }

    static void promise20_NO_noneAnyMore() {
        refused(adds(1).and("back()"), "back()", NO);
        refused(adds(6).times(6, "back()"), "back()", NO);
        refused(adds(1).and("back()", "back()"), "back()", NO);
    }

    static void promise20_howManyCanBeYet() {
        for (int n = 1; n <= 6; n++) {
            Run run = adds(n);
            for (int left = n - 1; left >= 0; left--) {
                Check.due(n + " states", run.ask("back()"), left);
                run = run.and("back()");
                Check.due("told(4)", run.states(), left);
                Check.due("words", run.ask("all(0)"), left);
            }
        }
    }

    static void promise20_theOldestIsLost() {
        Run run = adds(7);
        Check.due("states", run.states(), 6);
        Check.due("back", run.ask("back()"), 5);
        Run end = run.times(6, "back()");
        Check.due("words", end.words(), "a");
        refused(end, "back()", NO);
    }

    static void promise20_olderOnesAreLost() {
        for (int n = 8; n <= 13; n++) {
            Run end = adds(n).times(6, "back()");
            Check.due(n + " adds", end.ask("all(0)"), n - 6);
            refused(end, "back()", NO);
        }
    }

    static void promise20_newStatesBehindBack() {
        Run run = adds(9).times(4, "back()");
        Check.due("states", run.states(), 2);
        Check.due("words", run.words(), "a,b,c d,e");
        Run more = run;
        for (String s : "uvwxyz".split("")) more = more.text(s).and("add()");
        Check.due("states", more.states(), 6);
        Check.due("back", more.times(6, "back()").words(), "a,b,c d,e");
        Run two = run.text("z").and("add()");
        Check.due("states", two.states(), 3);
        Check.due("one back", two.and("back()").words(), "a,b,c d,e");
        Check.due("two back", two.times(2, "back()").words(), "a,b,c,d");
        Check.due("three back", two.times(3, "back()").words(), "a,b,c");
    }

    static void promise20_noStateOfItsOwn() {
        Run run = adds(3).and("back()");
        Check.due("states", run.states(), 2);
        Check.due("words", run.and("back()").words(), "a");
    }

    static void promise20_pagesGoBackAsTheyWere() {
        Run run = NEW.signs("abcdefgh");
        Check.due("before", run.words(), "a,b,c d,e,f g,h");
        Check.due("back from deals", run.and("deals(4)", "back()").facts(), run.facts());
        Check.due("back from takeOut", run.text("b").and("takeOut()", "back()").facts(), run.facts());
        Check.due("back from anew", run.and("anew()", "back()").facts(), run.facts());
        Check.due("back from draw", run.and("draw(0, 8, 24, 26)", "back()").facts(), run.facts());
        Check.due("back from does", run.does("-a;-b;+z;").and("back()").facts(), run.facts());
    }

    static void promise20_MGoesBack() {
        Check.due("M", NEW.and("deals(8)", "deals(5)", "back()").ask("all(3)"), 8);
        Check.due("M", NEW.and("deals(8)", "deals(5)", "back()", "back()").ask("all(3)"), 4);
        Check.due("M behind anew", NEW.and("deals(7)", "anew()", "back()").ask("all(3)"), 7);
        Check.due("a page of M", NEW.and("deals(8)", "anew()", "back()").signs("abcdefgh").shape(), "8");
    }

    static void promise20_theTextStays() {
        Check.due("bytes", adds(2).text("xyz").and("back()").ask("told(3)"), 3);
        Check.due("the text's word", adds(2).text("xyz").and("back()", "add()").words(), "a,xyz");
        Check.due("no text", adds(2).and("clear()", "back()").ask("told(3)"), 0);
    }

    static void promise20_howOftenRefusedStays() {
        Run run = adds(1).and("add()", "all(9)", "all(9)");
        Check.due("before", run.refusals(), "2 1 0");
        Check.due("behind", run.and("back()").refusals(), "2 1 0");
    }

    static void promise20_toNoWords() {
        Run run = adds(1).and("back()");
        Check.due("pages", run.ask("all(1)"), 0);
        Check.due("levels", run.ask("all(2)"), 0);
        Check.due("a first word", run.text("m").and("add()").shape(), "1");
    }

    static void promise20_to48Words() {
        Run run = MOST.and("anew()", "back()");
        Check.due("the index", run.facts(), MOST.facts());
        refused(run.text("0"), "add()", FULL);
    }

    static void promise20_noStateByAQuestion() {
        String[] calls = {"finds(0)", "way(0, 0)", "looks(0, 0)", "begins(0)", "between(0)", "sign(0, 0)", "parts(0)", "page(0, 0)", "fork(0, 0, 0)",
            "all(0)", "told(0)", "digest()", "type(97)", "clear()"};
        for (String call : calls) {
            Check.due(call, FIVE.text("b").and(call).states(), 1);
            Check.due(call + ", back", FIVE.text("b").and(call, "back()").ask("all(0)"), 0);
        }
    }

    static void promise20_noStateByARefusedCall() {
        String[] calls = {"add()", "draw(0, 0, 1, 1)", "deals(3)", "type(128)", "finds(3)", "all(7)"};
        for (String call : calls) Check.due(call, FIVE.text("b").and(call).states(), 1);
        Check.due("takeOut()", FIVE.text("c").and("takeOut()").states(), 1);
        Check.due("back()", NEW.and("back()").states(), 0);
        Check.due("FULL", MOST.text("0").and("add()").states(), MOST.states());
    }

    static void promise20_noStateByAFault() {
        Check.due("does()", FIVE.text("+a").and("does()").states(), 1);
        Check.due("does() without a text", FIVE.text("").and("does()").states(), 1);
    }
}
