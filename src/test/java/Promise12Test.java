/** Promise 12: looks. */
public final class Promise12Test extends Edges {
    public static void main(String[] args) {
        runs(Promise12Test.class, args);
    }

    static void promise12_theLeastPageAndTheGreatest() {
        asked(ONE.text("m"), "looks(0, 3)", 1);
        asked(FIVE.text("j"), "looks(0, 0)", 1);
        asked(FIVE.text("j"), "looks(2, 3)", 2);
        asked(MOST.text("z"), "looks(0, 3)", 2);
        asked(MOST.text("z"), "looks(23, 0)", 2);
    }

    static void promise12_theLeastWhatAndTheGreatest() {
        asked(FIVE.text("e"), "looks(1, 0)", 1);
        asked(FIVE.text("e"), "looks(1, 3)", 2);
    }

    static void promise12_BAD_page() {
        badOutside(ONE.text("m"), "looks(#, 0)", 0, 0);
        badOutside(FIVE.text("m"), "looks(#, 3)", 0, 2);
        badOutside(MOST.text("m"), "looks(#, 1)", 0, 23);
    }

    static void promise12_BAD_noPagesWithoutWords() {
        for (Run run : new Run[] {NEW, NEW.and("deals(8)"), FIVE.and("anew()"), ONE.does("-m;"), FIVE.and("back()")}) {
            refused(run.text("m"), "looks(0, 0)", BAD);
            refused(run.text("m"), "looks(-1, 0)", BAD);
        }
    }

    static void promise12_BAD_what() {
        badOutside(FIVE.text("b"), "looks(0, #)", 0, 3);
        badOutside(FIVE.text("b"), "looks(2, #)", 0, 3);
    }

    static void promise12_NO_theTextIsNoWord() {
        for (String s : NO_WORDS) {
            refused(FIVE.text(s), "looks(0, 0)", NO);
            refused(FIVE.text(s), "looks(2, 3)", NO);
        }
    }

    static void promise12_BADIsAheadOfNO() {
        for (String s : NO_WORDS) {
            refused(FIVE.text(s), "looks(3, 0)", BAD);
            refused(FIVE.text(s), "looks(0, 4)", BAD);
            refused(NEW.text(s), "looks(0, 0)", BAD);
        }
    }

    /** On its way dddd has nothing to read on page 2. */
    static void promise12_knownIs0WhereverThatIs() {
        Run run = NEW.words("aaaa", "bbbb", "cccc", "dddd", "eeee").text("dddd");
        Check.due("on its way", run.ask("way(0, 4)"), 0);
        row(run, "looks(2, #)", 0, NONE, 1, 1);
    }

    /** A page that is not on the word's way. */
    static void promise12_aPageAheadOfItAndOneBehindIt() {
        row(FIVE.text("z"), "looks(1, #)", 0, 3, 1, 3);
        row(FIVE.text("0"), "looks(2, #)", 0, 1, 1, 0);
        row(FIVE.text("b"), "looks(2, #)", 1, 4, 1, 0);
    }

    static void promise12_diffNONEAnd191() {
        asked(FIVE.text("d"), "looks(1, 1)", NONE);
        asked(NEW.words(A23 + "b").text(A23 + "c"), "looks(0, 1)", 191);
    }
}
