/** Promise 3: clear. */
public final class Promise03Test extends Edges {
    public static void main(String[] args) {
        runs(Promise03Test.class, args);
    }

    static void promise3_anEmptyTextHad0() {
        asked(NEW, "clear()", 0);
        asked(FIVE.and("clear()"), "clear()", 0);
    }

    static void promise3_oneByte() {
        Check.due("clear()", NEW.and("type(0)").ask("clear()"), 1);
    }

    static void promise3_aFullTextHad120() {
        Run run = NEW.text("a".repeat(120));
        Check.due("clear()", run.ask("clear()"), 120);
        Check.due("clear() behind a refused byte", run.and("type(97)").ask("clear()"), 120);
        Check.due("bytes", run.and("clear()").ask("told(3)"), 0);
    }

    static void promise3_theTextIsEmpty() {
        Run run = FIVE.text("b").and("clear()");
        asked(run, "told(3)", 0);
        refused(run, "finds(1)", NO);
        refused(run, "takeOut()", NO);
        asked(run, "does()", -10);
    }

    /** What stood there does not come back with the next bytes. */
    static void promise3_nothingStaysBehindTheNextByte() {
        row(NEW.text("abc").and("clear()", "type(100)", "add()"), "sign(0, #)", 'd', NONE, NONE);
    }

    static void promise3_theIndexStays() {
        Check.due("the index", FIVE.and("clear()").facts(), FIVE.facts());
        Check.due("the states", FIVE.and("clear()").past().toString(), FIVE.past().toString());
        Check.due("nothing is refused", FIVE.and("clear()").refusals(), "0 0 0");
    }
}
