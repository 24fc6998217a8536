/** Promise 2: type. */
public final class Promise02Test extends Edges {
    private static final Run TEXT_119 = FIVE.text("a".repeat(119));
    private static final Run TEXT_120 = FIVE.text("a".repeat(120));

    public static void main(String[] args) {
        runs(Promise02Test.class, args);
    }

    static void promise2_theLeastByteIsTaken() {
        Check.due("type(0)", NEW.ask("type(0)"), 1);
        Check.due("bytes", NEW.and("type(0)").ask("told(3)"), 1);
        Check.due("behind another", FIVE.text("a").ask("type(0)"), 2);
    }

    static void promise2_theGreatestByteIsTaken() {
        Check.due("type(127)", NEW.ask("type(127)"), 1);
        Check.due("bytes", NEW.and("type(127)").ask("told(3)"), 1);
    }

    static void promise2_allBytesAreTaken() {
        Run run = NEW;
        for (int c = 0; c <= 127; c++) {
            if (c % 120 == 0) run = run.and("clear()");
            Check.due("type(" + c + ")", run.ask("type(" + c + ")"), c % 120 + 1);
            run = run.and("type(" + c + ")");
        }
    }

    static void promise2_BAD_belowTheLeastByte() {
        badBelow(FIVE.text("ab"), "type(#)", 0);
        refused(NEW, "type(-128)", BAD);
        refused(NEW, "type(-159)", BAD);
    }

    static void promise2_BAD_aboveTheGreatestByte() {
        badAbove(FIVE.text("ab"), "type(#)", 127);
        refused(NEW, "type(255)", BAD);
        refused(NEW, "type(353)", BAD);
    }

    static void promise2_the120thByteIsTaken() {
        Check.due("the 120th", TEXT_119.ask("type(97)"), 120);
        Check.due("bytes", TEXT_120.ask("told(3)"), 120);
        Check.due("nothing is refused", TEXT_120.refusals(), "0 0 0");
    }

    static void promise2_FULL_the121stByte() {
        refused(TEXT_120, "type(97)", FULL);
        refused(TEXT_120, "type(0)", FULL);
        refused(TEXT_120, "type(127)", FULL);
        refused(TEXT_120.and("type(97)"), "type(97)", FULL);
    }

    static void promise2_BADIsAheadOfFULL() {
        badOutside(TEXT_120, "type(#)", 0, 127);
    }

    static void promise2_aFullTextIsFilledAnewBehindClear() {
        Check.due("type behind clear", TEXT_120.and("clear()").ask("type(98)"), 1);
        Check.due("the word is the new byte alone", TEXT_120.and("clear()", "type(98)").ask("begins(0)"), 1);
    }

    static void promise2_aByteComesBehindTheText() {
        Run run = NEW.and("type(98)", "type(97)", "type(99)", "add()");
        row(run, "sign(0, #)", 'b', 'a', 'c', NONE);
        Check.due("behind a word that was added", run.ask("type(100)"), 4);
        row(run.and("type(100)", "add()"), "sign(1, #)", 'b', 'a', 'c', 'd', NONE);
    }

    /** Byte 0 is a byte of the text, no end of it. */
    static void promise2_byte0IsNoEnd() {
        refused(NEW.and("type(97)", "type(0)"), "add()", NO);
        asked(NEW.text("+a\0;"), "does()", -12);
    }

    static void promise2_leavesNoState() {
        Check.due("states", NEW.and("type(97)").states(), 0);
        Check.due("states of before", FIVE.and("type(97)").past().toString(), FIVE.past().toString());
    }
}
