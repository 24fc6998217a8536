/** Promise 8: deals; with it how WORDS are DEALT. */
public final class Promise08Test extends Edges {
    public static void main(String[] args) {
        runs(Promise08Test.class, args);
    }

    private static void dealt(int n, int m, int pages, String shape) {
        Run run = NEW.signs(SIGNS_48.substring(0, n));
        Check.due(n + " words, M " + m, run.ask("deals(" + m + ")"), pages);
        Run behind = run.and("deals(" + m + ")");
        Check.due(n + " words, M " + m, behind.shape(), shape);
        Check.due("M", behind.ask("all(3)"), m);
        Check.due("words", behind.words().replace(",", "").replace(" ", ""), SIGNS_48.substring(0, n));
    }

    static void promise8_theLeastMIsTaken() {
        leavesAState(FIVE.text("q"), "deals(4)", 3);
        leavesAState(FIVE.and("deals(8)"), "deals(4)", 3);
    }

    static void promise8_theGreatestMIsTaken() {
        leavesAState(FIVE.text("q"), "deals(8)", 1);
        leavesAState(MOST, "deals(8)", 7);
    }

    static void promise8_BAD_belowTheLeastM() {
        badBelow(NEW, "deals(#)", 4);
        badBelow(FIVE.text("q"), "deals(#)", 4);
        refused(FIVE, "deals(0)", BAD);
        refused(FIVE, "deals(-4)", BAD);
    }

    static void promise8_BAD_aboveTheGreatestM() {
        badAbove(NEW, "deals(#)", 8);
        badAbove(FIVE.and("deals(8)"), "deals(#)", 8);
        refused(MOST, "deals(9)", BAD);
    }

    static void promise8_withoutWordsThereAreNoPages() {
        for (int m = 4; m <= 8; m++) {
            leavesAState(NEW, "deals(" + m + ")", 0);
            Check.due("M", NEW.and("deals(" + m + ")").ask("all(3)"), m);
            Check.due("levels", NEW.and("deals(" + m + ")").ask("all(2)"), 0);
        }
    }

    static void promise8_oneWord() {
        for (int m = 4; m <= 8; m++) dealt(1, m, 1, "1");
    }

    static void promise8_MWordsAreOnOnePage() {
        for (int m = 4; m <= 8; m++) dealt(m, m, 1, Integer.toString(m));
    }

    static void promise8_MAnd1WordsAreOnTwo() {
        dealt(5, 4, 3, "2|3 2");
        dealt(6, 5, 3, "2|3 3");
        dealt(7, 6, 3, "2|4 3");
        dealt(8, 7, 3, "2|4 4");
        dealt(9, 8, 3, "2|5 4");
    }

    static void promise8_moreOnTheEarlierOnesByOneAtMost() {
        dealt(9, 4, 4, "3|3 3 3");
        dealt(10, 4, 4, "3|4 3 3");
        dealt(11, 4, 4, "3|4 4 3");
        dealt(12, 4, 4, "3|4 4 4");
        dealt(13, 4, 5, "4|4 3 3 3");
        dealt(17, 8, 4, "3|6 6 5");
    }

    static void promise8_MTimesMWordsAreOnTwoLevels() {
        dealt(16, 4, 5, "4|4 4 4 4");
        dealt(25, 5, 6, "5|5 5 5 5 5");
        dealt(36, 6, 7, "6|6 6 6 6 6 6");
    }

    static void promise8_oneMoreIsOnThreeLevels() {
        dealt(17, 4, 8, "2|3 2|4 4 3 3 3");
        dealt(26, 5, 9, "2|3 3|5 5 4 4 4 4");
        dealt(37, 6, 10, "2|4 3|6 6 5 5 5 5 5");
    }

    static void promise8_48Words() {
        dealt(48, 4, 16, "3|4 4 4|4 4 4 4 4 4 4 4 4 4 4 4");
        dealt(48, 5, 13, "2|5 5|5 5 5 5 5 5 5 5 4 4");
        dealt(48, 6, 11, "2|4 4|6 6 6 6 6 6 6 6");
        dealt(48, 7, 8, "7|7 7 7 7 7 7 6");
        dealt(48, 8, 7, "6|8 8 8 8 8 8");
    }

    static void promise8_theSameMDealsToo() {
        Check.due("before", FIVE.signs("ac").shape(), "3|3 2 2");
        leavesAState(FIVE.signs("ac"), "deals(4)", 3);
        Check.due("dealt", FIVE.signs("ac").and("deals(4)").shape(), "2|4 3");
    }

    static void promise8_MCountsFromThenOn() {
        Run run = FIVE.and("deals(5)");
        Check.due("five", run.shape(), "5");
        Check.due("a sixth", run.signs("k").shape(), "2|3 3");
        Check.due("M 4 again", run.and("deals(4)").signs("kl").shape(), "2|3 4");
    }

    static void promise8_theTextStays() {
        Check.due("bytes", FIVE.text("abc").and("deals(5)").ask("told(3)"), 3);
    }

    static void promise8_the6thStateAndThe7th() {
        Run run = NEW.signs("abcdefghi");
        int[] pages = {4, 3, 3, 3, 3, 4, 3, 3};
        for (int i = 0; i < 8; i++) {
            leavesAState(run, "deals(" + (4 + i % 5) + ")", pages[i]);
            run = run.and("deals(" + (4 + i % 5) + ")");
            Check.due("states", run.states(), Math.min(i + 2, 6));
        }
    }
}
