/** Promise 10: finds. */
public final class Promise10Test extends Edges {
    public static void main(String[] args) {
        runs(Promise10Test.class, args);
    }

    static void promise10_aheadOfAllAndBehindAll() {
        asked(FIVE.text("a"), "finds(0)", 0);
        asked(FIVE.text("0"), "finds(0)", 0);
        asked(FIVE.text("k"), "finds(0)", 5);
        asked(FIVE.text("zz"), "finds(0)", 5);
        asked(MOST.text("D"), "finds(0)", 0);
        asked(MOST.text("zz"), "finds(0)", 48);
    }

    /** A word that is there is not behind itself. */
    static void promise10_aWordThatIsThereCounts() {
        asked(ONE.text("m"), "finds(0)", 1);
        asked(FIVE.text("b"), "finds(0)", 1);
        asked(FIVE.text("c"), "finds(0)", 1);
        asked(FIVE.text("h"), "finds(0)", 4);
        asked(FIVE.text("g"), "finds(0)", 3);
        asked(FIVE.text("j"), "finds(0)", 5);
        asked(MOST.text("E"), "finds(0)", 1);
        asked(MOST.text("z"), "finds(0)", 48);
    }

    static void promise10_thereIs1And0() {
        asked(FIVE.text("b"), "finds(1)", 1);
        asked(FIVE.text("j"), "finds(1)", 1);
        asked(FIVE.text("B"), "finds(1)", 0);
        asked(FIVE.text("bb"), "finds(1)", 0);
        asked(NEW.words(A24).text(A24), "finds(1)", 1);
        asked(NEW.words(A24).text(A23), "finds(1)", 0);
        asked(NEW.words(A23).text(A24), "finds(1)", 0);
    }

    static void promise10_cost() {
        asked(ONE.text("a"), "finds(2)", 1);
        asked(FIVE.text("b"), "finds(2)", 2);
        asked(FIVE.text("z"), "finds(2)", 2);
        asked(NEW.words(A24).text(A24), "finds(2)", 6);
        asked(NEW.words("aaaa", "bbbb", "cccc", "dddd", "eeee").text("dddd"), "finds(2)", 1);
    }

    static void promise10_withoutPages() {
        for (Run run : new Run[] {NEW, NEW.and("deals(8)"), FIVE.and("anew()"), ONE.does("-m;")}) {
            asked(run.text("m"), "finds(0)", 0);
            asked(run.text("m"), "finds(1)", 0);
            asked(run.text("m"), "finds(2)", 0);
        }
    }

    static void promise10_BAD_what() {
        badOutside(FIVE.text("b"), "finds(#)", 0, 2);
        badOutside(NEW.text("b"), "finds(#)", 0, 2);
    }

    static void promise10_NO_theTextIsNoWord() {
        for (String s : NO_WORDS) {
            for (int what = 0; what <= 2; what++) {
                refused(FIVE.text(s), "finds(" + what + ")", NO);
                refused(NEW.text(s), "finds(" + what + ")", NO);
            }
        }
    }

    static void promise10_BADIsAheadOfNO() {
        badOutside(FIVE.text(""), "finds(#)", 0, 2);
        badOutside(NEW.text("a;"), "finds(#)", 0, 2);
    }
}
