/** Promise 5: takeOut; with it how a WORD is TAKEN OUT. */
public final class Promise05Test extends Edges {
    /** Half of M, rounded down, for M 4 .. 8. */
    private static final int[] HALF = {2, 2, 3, 3, 4};

    public static void main(String[] args) {
        runs(Promise05Test.class, args);
    }

    static void promise5_theOnlyWord() {
        leavesAState(ONE.text("m"), "takeOut()", 0);
        Run run = ONE.text("m").and("takeOut()");
        Check.due("pages", run.ask("all(1)"), 0);
        Check.due("levels", run.ask("all(2)"), 0);
        Check.due("a first word again", run.and("add()").shape(), "1");
    }

    static void promise5_MStaysWhenTheLastWordGoes() {
        Check.due("M", NEW.and("deals(7)").signs("a").takesOut("a").ask("all(3)"), 7);
    }

    static void promise5_theFirstWordAndTheLast() {
        leavesAState(FIVE.text("b"), "takeOut()", 4);
        Check.due("words", FIVE.takesOut("b").words(), "d,f h,j");
        leavesAState(FIVE.text("j"), "takeOut()", 4);
        Check.due("words", FIVE.takesOut("j").words(), "b,d,f,h");
    }

    static void promise5_aHeadOfAPage() {
        leavesAState(FIVE.signs("k").text("h"), "takeOut()", 5);
        Run run = FIVE.signs("k").takesOut("h");
        Check.due("words", run.words(), "b,d,f j,k");
        Check.due("the top's fork is that of b and j", run.ask("fork(0, 0, 0)"), 4);
        Check.due("the new head is known", run.text("j").ask("way(0, 1)"), 8);
    }

    static void promise5_oneOf48() {
        leavesAState(MOST.text("E"), "takeOut()", 47);
        leavesAState(MOST.text("z"), "takeOut()", 47);
    }

    static void promise5_aWordOf24Signs() {
        leavesAState(FIVE.words(A24).text(A24), "takeOut()", 5);
    }

    static void promise5_NO_theTextIsNoWord() {
        for (String s : NO_WORDS) {
            refused(NEW.text(s), "takeOut()", NO);
            refused(FIVE.text(s), "takeOut()", NO);
            refused(MOST.text(s), "takeOut()", NO);
        }
    }

    static void promise5_NO_thereAreNoWords() {
        refused(NEW.text("a"), "takeOut()", NO);
        refused(ONE.text("m").and("takeOut()"), "takeOut()", NO);
    }

    static void promise5_NO_itIsNotThere() {
        refused(ONE.text("n"), "takeOut()", NO);
        for (String s : new String[] {"a", "c", "g", "k", "B", "bb", A24}) refused(FIVE.text(s), "takeOut()", NO);
        refused(MOST.text("0"), "takeOut()", NO);
    }

    static void promise5_NO_aBeginningOfAWordIsNotIt() {
        refused(NEW.words("abc").text("ab"), "takeOut()", NO);
        refused(NEW.words("abc").text("abcd"), "takeOut()", NO);
        refused(NEW.words(A24).text(A23), "takeOut()", NO);
        refused(NEW.words(A24).text(A24 + "a"), "takeOut()", NO);
    }

    static void promise5_the6thStateAndThe7th() {
        Run run = NEW.signs("abcdefgh");
        for (int i = 0; i < 8; i++) {
            run = run.text("abcdefgh".substring(i, i + 1));
            leavesAState(run, "takeOut()", 7 - i);
            run = run.and("takeOut()");
            Check.due("states", run.states(), Math.min(i + 2, 6));
        }
    }

    // ---- pages with too few entries

    /** Two pages of so many entries, as a split leaves them with words put in or taken out. */
    private static Run twoPages(int m, int first, int second) {
        Run run = NEW.and("deals(" + m + ")").signs("abcdefghi".substring(0, m + 1));
        int stay = (m + 2) / 2;
        for (int n = stay; n < first; n++) run = run.words("a" + n);
        for (int n = m + 1 - stay; n < second; n++) run = run.words("z" + n);
        for (int n = stay; n > first; n--) run = run.takesOut("abcdefghi".substring(stay - n, stay - n + 1));
        for (int n = m + 1 - stay; n > second; n--) run = run.takesOut("abcdefghi".substring(m - (m + 1 - stay - n), m + 1 - (m + 1 - stay - n)));
        Check.due("M " + m, run.shape(), "2|" + first + " " + second);
        return run;
    }

    /** Takes out the first word of a page. */
    private static Run fewer(Run run, int page) {
        return run.text(run.word((int) run.ask("page(" + page + ", 3)"))).and("takeOut()");
    }

    static void promise5_halfOfMRoundedDownIsNotTooFew() {
        for (int m = 4; m <= 8; m++) {
            int half = HALF[m - 4];
            Check.due("M " + m + ", the first", fewer(twoPages(m, half + 1, half), 1).shape(), "2|" + half + " " + half);
            Check.due("M " + m + ", the last", fewer(twoPages(m, half, half + 1), 2).shape(), "2|" + half + " " + half);
        }
    }

    static void promise5_fewerThanHalfOfMIsTooFew() {
        for (int m = 4; m <= 8; m++) {
            int half = HALF[m - 4];
            String joined = Integer.toString(2 * half - 1);
            Check.due("M " + m + ", the first", fewer(twoPages(m, half, half), 1).shape(), joined);
            Check.due("M " + m + ", the last", fewer(twoPages(m, half, half), 2).shape(), joined);
        }
    }

    static void promise5_MEntriesTogetherAreJoined() {
        for (int m = 4; m <= 8; m++) {
            int half = HALF[m - 4];
            Check.due("M " + m + ", the first", fewer(twoPages(m, half, m - half + 1), 1).shape(), Integer.toString(m));
            Check.due("M " + m + ", the last", fewer(twoPages(m, m - half + 1, half), 2).shape(), Integer.toString(m));
        }
    }

    static void promise5_MAnd1EntriesTogetherAreSharedOut() {
        String[] shapes = {"2|3 2", "2|3 3", "2|4 3", "2|4 4", "2|5 4"};
        for (int m = 4; m <= 8; m++) {
            int half = HALF[m - 4];
            Check.due("M " + m + ", the first", fewer(twoPages(m, half, m - half + 2), 1).shape(), shapes[m - 4]);
            Check.due("M " + m + ", the last", fewer(twoPages(m, m - half + 2, half), 2).shape(), shapes[m - 4]);
        }
    }

    /** As many as can be: one fewer than half of M, and M. */
    static void promise5_theFirstHasHalfOfThemAllRoundedUp() {
        String[] shapes = {"2|3 2", "2|3 3", "2|4 4", "2|5 4", "2|6 5"};
        for (int m = 4; m <= 8; m++) {
            int half = HALF[m - 4];
            Check.due("M " + m + ", the first", fewer(twoPages(m, half, m), 1).shape(), shapes[m - 4]);
            Check.due("M " + m + ", the last", fewer(twoPages(m, m, half), 2).shape(), shapes[m - 4]);
        }
    }

    static void promise5_withTheOneRightBehindIt() {
        Run run = NEW.signs("abcdefgh").takesOut("a");
        Check.due("before", run.words(), "b,c d,e,f g,h");
        Check.due("the first", run.takesOut("b").words(), "c,d,e,f g,h");
        Run middle = NEW.signs("abcdefgh").takesOut("d");
        Check.due("before", middle.words(), "a,b,c e,f g,h");
        Check.due("the middle one", middle.takesOut("e").words(), "a,b,c f,g,h");
    }

    static void promise5_theLastOneWithTheOneRightAheadOfIt() {
        Run run = NEW.signs("abcdefgh");
        Check.due("before", run.words(), "a,b,c d,e,f g,h");
        Check.due("joined", run.takesOut("h").words(), "a,b,c d,e,f,g");
        Run five = NEW.signs("abcdfghe").words("d1");
        Check.due("before", five.words(), "a,b,c d,d1,e,f g,h");
        Check.due("shared out", five.takesOut("h").words(), "a,b,c d,d1,e f,g");
    }

    /** The last of a page's entries goes with the one ahead of it, though there is one of another page behind it. */
    static void promise5_theOneBehindIsOnTheSamePageAbove() {
        Run run = NEW.signs("abcdefghijklmnopq").and("deals(4)");
        Check.due("before", run.words(), "a,b,c,d e,f,g,h i,j,k l,m,n o,p,q");
        Check.due("before", run.shape(), "2|3 2|4 4 3 3 3");
        Run two = run.takesOut("ij");
        Check.due("shared out with the one ahead", two.words(), "a,b,c,d e,f,g h,k l,m,n o,p,q");
    }

    static void promise5_pagesAboveAreJoinedToo() {
        Run run = NEW.signs("abcdefghijklmnopq").and("deals(4)").takesOut("q");
        Check.due("two are enough", run.shape(), "2|3 2|4 4 3 3 2");
        Check.due("joined on two levels", run.takesOut("p").words(), "a,b,c,d e,f,g,h i,j,k l,m,n,o");
        Check.due("the top went", run.takesOut("p").shape(), "4|4 4 3 4");
        Check.due("levels", run.takesOut("p").ask("all(2)"), 2);
    }

    static void promise5_pagesAboveAreSharedOutToo() {
        Run run = NEW.signs("abcdefghijklmnopq").and("deals(4)").words("a1").takesOut("q");
        Check.due("before", run.shape(), "2|4 2|3 2 4 3 3 2");
        Check.due("shared out above", run.takesOut("p").shape(), "2|3 2|3 2 4 3 4");
        Check.due("words", run.takesOut("p").words(), "a,a1,b c,d e,f,g,h i,j,k l,m,n,o");
    }

    static void promise5_theTopMayHaveFewerThanHalfOfM() {
        Run run = NEW.and("deals(8)").signs("abcdefghi");
        Check.due("two pages", run.shape(), "2|5 4");
        Check.due("two pages still", run.takesOut("a").shape(), "2|4 4");
        Check.due("one word", NEW.and("deals(8)").signs("ab").takesOut("a").shape(), "1");
    }

    static void promise5_aTopOfOnePageGoes() {
        Check.due("before", FIVE.shape(), "2|3 2");
        Check.due("behind it", FIVE.takesOut("j").shape(), "4");
        Check.due("levels", FIVE.takesOut("j").ask("all(2)"), 1);
        asked(FIVE.takesOut("j"), "page(0, 4)", NONE);
    }

    static void promise5_allOf48() {
        String down = new StringBuilder(SIGNS_48).reverse().toString();
        Run run = NEW.signs(down);
        Run first = run.does(Check.orders('-', SIGNS_48.substring(0, 40)));
        Check.due("eight are left", first.words().replace(",", "").replace(" ", ""), "stuvwxyz");
        Check.due("none is left", first.does(Check.orders('-', "zsytxuwv")).ask("all(1)"), 0);
    }
}
