/** The terms, parts 1 and 2; those of part 3 are cases of the promises that lean on them. */
public final class TermsTest extends Edges {
    public static void main(String[] args) {
        runs(TermsTest.class, args);
    }

    /** One page, two levels, three, four, five; added, dealt, taken out. */
    private static final Run[] SHAPES = {ONE, FIVE, NEW.signs("abcdefghijklmnopq").and("deals(4)"), MOST, MOST.and("deals(5)"), MOST.takesOut("EJOTYdinsx"),
        NEW.signs(new StringBuilder(SIGNS_48).reverse().toString()), NEW.and("draw(7, 8, 24, 3)", "draw(8, 8, 24, 3)", "draw(9, 8, 24, 26)")};

    private static boolean isSign(int c) {
        return c >= 'a' && c <= 'z' || c >= 'A' && c <= 'Z' || c >= '0' && c <= '9';
    }

    // ---- 1: words

    static void terms1_aWordHas1SignAtLeast() {
        refused(FIVE.text(""), "finds(1)", NO);
        asked(FIVE.text("q"), "finds(1)", 0);
    }

    static void terms1_aWordHas24SignsAtMost() {
        asked(FIVE.text(A24), "finds(1)", 0);
        refused(FIVE.text(A24 + "a"), "finds(1)", NO);
        refused(FIVE.text(A24 + A24 + A24 + A24 + A24), "finds(1)", NO);
    }

    static void terms1_signsAreLettersAndFigures() {
        int signs = 0;
        for (int c = 0; c <= 127; c++) {
            long got = FIVE.text(Character.toString(c)).ask("begins(0)");
            Check.due("a word of byte " + c, got, !isSign(c) ? NO : "bdfhj".indexOf(c) >= 0 ? 1 : 0);
            if (got != NO) signs++;
        }
        Check.due("signs", signs, 62);
    }

    static void terms1_signsAreLettersAndFiguresAtEachPlace() {
        for (int at = 0; at < 24; at++) {
            for (char c : new char[] {0, ' ', '/', ':', ';', '@', '[', '`', '{', 127}) {
                String s = A24.substring(0, at) + c + A24.substring(at + 1);
                Check.due("byte " + (int) c + " at " + at, NEW.text(s).ask("finds(1)"), NO);
            }
            for (char c : new char[] {'0', '9', 'A', 'Z', 'a', 'z'}) {
                String s = A24.substring(0, at) + c + A24.substring(at + 1);
                Check.due("sign " + c + " at " + at, NEW.text(s).ask("finds(1)"), 0);
            }
        }
    }

    static void terms1_behindTheLastSignAllBitsAre0() {
        Check.due("a, a0", NEW.words("a", "a0").ask("parts(0)"), 10);
        Check.due("a, aA", NEW.words("a", "aA").ask("parts(0)"), 9);
        Check.due("8 and 9 signs", NEW.words("aaaaaaaa", "aaaaaaaaa").ask("parts(0)"), 65);
        Check.due("23 and 24 signs, a letter", NEW.words(A23, A24).ask("parts(0)"), 185);
        Check.due("23 and 24 signs, a figure", NEW.words(A23, A23 + "0").ask("parts(0)"), 186);
    }

    static void terms1_bitsOfASignFromTheHighestOn() {
        String[] pairs = {"9A", "Aa", "op", "gh", "cd", "ab", "bc"};
        for (int j = 1; j <= 7; j++) {
            String one = pairs[j - 1].substring(0, 1), two = pairs[j - 1].substring(1);
            Check.due("bit " + j, NEW.words(two, one).ask("parts(0)"), j);
            Check.due("bit " + (16 + j), NEW.words("xy" + two, "xy" + one).ask("parts(0)"), 16 + j);
            Check.due("bit " + (184 + j), NEW.words(A23 + two, A23 + one).ask("parts(0)"), 184 + j);
        }
    }

    static void terms1_aheadIsWhatHas0WhereTheyDiffer() {
        Run run = NEW.words("z", "aa", "a", "Z", "A", "9", "0", "aA", "a0").and("deals(8)");
        Check.due("order", run.words().replace(' ', ','), "0,9,A,Z,a,a0,aA,aa,z");
    }

    static void terms1_aPieceIsOf4Signs() {
        row(NEW.words("aaab").text("aaac"), "looks(0, #)", 0, 31, 1, 1);
        row(NEW.words("aaaa").text("aaaaa"), "looks(0, #)", 0, 33, 2, 1);
        row(NEW.words("aaaaaaab").text("aaaaaaac"), "looks(0, #)", 0, 63, 2, 1);
        row(NEW.words("aaaaaaaa").text("aaaaaaaaa"), "looks(0, #)", 0, 65, 3, 1);
        row(NEW.words(A23 + "b").text(A23 + "c"), "looks(0, #)", 0, 191, 6, 1);
    }

    static void terms1_48WordsAtMost() {
        asked(MOST, "all(0)", 48);
        refused(MOST.text("0"), "add()", FULL);
        leavesAState(MOST.text("+0;+1;"), "does()", 0);
        leavesAState(MOST.text("0"), "draw(999999, 8, 24, 26)", 0);
    }

    static void terms1_noWordTwice() {
        refused(FIVE.text("b"), "add()", NO);
        leavesAState(FIVE.text("+b;+q;+q;"), "does()", 1);
        Check.due("eight times a", NEW.ask("draw(1, 8, 1, 1)"), 1);
    }

    static void terms1_noWordsAtFirst() {
        asked(NEW, "all(0)", 0);
    }

    // ---- 1: pages

    static void terms1_MIs4AtFirst() {
        asked(NEW, "all(3)", 4);
        Check.due("a page of four", NEW.signs("abcd").shape(), "4");
        Check.due("a fifth", NEW.signs("abcde").shape(), "2|3 2");
    }

    static void terms1_aPageHas1EntryAtLeast() {
        asked(ONE, "page(0, 1)", 1);
        for (int m = 4; m <= 8; m++) {
            Check.due("M " + m, NEW.and("deals(" + m + ")").signs("abcdefgh".substring(0, m)).takesOut("abcdefgh".substring(1, m)).shape(), "1");
        }
    }

    static void terms1_aPageHasMEntriesAtMost() {
        String[] split = {"2|3 2", "2|3 3", "2|4 3", "2|4 4", "2|5 4"};
        for (int m = 4; m <= 8; m++) {
            Run run = NEW.and("deals(" + m + ")").signs("abcdefgh".substring(0, m));
            Check.due("M " + m, run.shape(), Integer.toString(m));
            Check.due("M " + m + ", one more", run.signs("z").shape(), split[m - 4]);
        }
    }

    static void terms1_onTheHighestLevelThereIsOnePage() {
        Check.due("shape", MOST.shape(), "2|3 2|3 3 3 3 4|3 3 3 3 3 3 3 3 3 3 3 3 3 3 3 3");
        row(MOST, "page(#, 0)", 3, 2, 2, 1, 1, 1, 1, 1, 0, 0, 0, 0, 0, 0, 0, 0, 0, 0, 0, 0, 0, 0, 0, 0, BAD);
        asked(ONE, "page(0, 0)", 0);
    }

    static void terms1_eachPageButTheTopIsAnEntryOfOnePage() {
        row(MOST, "page(#, 4)", NONE, 0, 0, 1, 1, 1, 2, 2, 3, 3, 3, 4, 4, 4, 5, 5, 5, 6, 6, 6, 7, 7, 7, 7);
        asked(ONE, "page(0, 4)", NONE);
    }

    /** Of several shapes: each level's pages one behind another, in order, those of one page together. */
    static void terms1_pagesAreNumberedLevelByLevelEachInOrder() {
        for (Run run : SHAPES) {
            long pages = run.ask("all(1)");
            for (int p = 1; p < pages; p++) {
                long step = run.ask("page(" + (p - 1) + ", 0)") - run.ask("page(" + p + ", 0)");
                Check.due("level of " + p, step, p == firstOfLevel(run, p) ? 1 : 0);
                boolean inOrder = step == 1 || run.ask("page(" + (p - 1) + ", 3)") < run.ask("page(" + p + ", 3)");
                Check.due("head of " + p + " in order", inOrder ? 1 : 0, 1);
                Check.due("above " + p, run.ask("page(" + p + ", 4)"), pageWithEntry(run, p));
            }
        }
    }

    private static int firstOfLevel(Run run, int p) {
        int first = p;
        while (first > 0 && run.ask("page(" + (first - 1) + ", 0)") == run.ask("page(" + p + ", 0)")) first--;
        return first;
    }

    /** The entries of the pages are pages 1, 2, .. one behind another. */
    private static int pageWithEntry(Run run, int entry) {
        int page = 0;
        for (long last = run.ask("page(0, 1)"); last < entry; last += run.ask("page(" + page + ", 1)")) page++;
        return page;
    }

    static void terms1_entriesAreInOrder() {
        for (Run run : SHAPES) {
            String[] words = run.words().split("[ ,]");
            Check.due("words", words.length, run.ask("all(0)"));
            for (int k = 1; k < words.length; k++) Check.due(words[k - 1] + " ahead of " + words[k], Model.before(words[k - 1], words[k]) ? 1 : 0, 1);
        }
    }

    static void terms1_theHeadOfAPageIsThatOfItsFirstEntry() {
        row(MOST, "page(#, 3)", 0, 0, 27, 0, 9, 18, 27, 36, 0, 3, 6, 9, 12, 15, 18, 21, 24, 27, 30, 33, 36, 39, 42, 45);
    }

    static void terms1_withoutWordsThereAreNoPages() {
        Run[] none = {NEW, ONE.text("m").and("takeOut()"), ONE.does("-m;"), FIVE.and("anew()"), ONE.and("back()"), FIVE.does("-h;-b;-j;-f;-d;"),
            NEW.and("deals(8)")};
        for (Run run : none) {
            asked(run, "all(0)", 0);
            asked(run, "all(1)", 0);
            asked(run, "all(2)", 0);
            refused(run, "page(0, 0)", BAD);
        }
    }

    // ---- 1: blind trees

    static void terms1_theTreeOfOneHeadIsATip() {
        asked(ONE, "page(0, 5)", 0);
        refused(ONE, "fork(0, 0, 0)", BAD);
        row(ONE.text("m"), "looks(0, #)", 0, NONE, 1, 1);
        row(ONE.text("l"), "looks(0, #)", 0, 7, 1, 0);
        row(ONE.text("n"), "looks(0, #)", 0, 6, 1, 1);
    }

    static void terms1_aForkIsAtTheFirstBitInWhichNotAllAreAlike() {
        row(NEW.words("b", "c"), "fork(0, 0, #)", 7, 1, 1, 0);
        row(NEW.words("9", "A"), "fork(0, 0, #)", 1, 1, 1, 0);
        row(NEW.words(A23 + "b", A23 + "c"), "fork(0, 0, #)", 191, 1, 1, 0);
        row(NEW.words("a", "b", "c"), "fork(0, 0, #)", 6, 1, 2, 0);
    }

    static void terms1_forksAreNumberedAheadOfAllBeneathLeftAheadOfRight() {
        Run run = NEW.and("deals(8)").signs("hgfedcba");
        row(run, "fork(0, #, 0)", 4, 5, 6, 7, 6, 7, 7, BAD);
        row(run, "fork(0, #, 1)", 7, 3, 1, 1, 2, 1, 1, BAD);
        row(run, "fork(0, #, 2)", 1, 4, 2, 1, 2, 1, 1, BAD);
        row(run, "fork(0, #, 3)", 0, 1, 2, 3, 2, 3, 3, BAD);
    }

    // ---- 2: looking

    /** b d f: a fork at bit 5, to its right one at bit 6. */
    static void terms2_withoutDiffPlaceIsTheGuessAnd1() {
        row(FIVE.text("b"), "looks(1, #)", 0, NONE, 1, 1);
        row(FIVE.text("d"), "looks(1, #)", 1, NONE, 1, 2);
        row(FIVE.text("f"), "looks(1, #)", 2, NONE, 1, 3);
    }

    static void terms2_withNoForkAboveDiffItIsTheTip() {
        row(FIVE.text("a"), "looks(1, #)", 0, 6, 1, 0);
        row(FIVE.text("c"), "looks(1, #)", 0, 7, 1, 1);
        row(FIVE.text("e"), "looks(1, #)", 1, 7, 1, 2);
        row(FIVE.text("g"), "looks(1, #)", 2, 7, 1, 3);
        row(FIVE.text("da"), "looks(1, #)", 1, 9, 1, 2);
    }

    static void terms2_theFirstForkAboveDiffIsTheTreesTop() {
        row(FIVE.text("0"), "looks(1, #)", 0, 1, 1, 0);
        row(FIVE.text("z"), "looks(1, #)", 0, 3, 1, 3);
        row(FIVE.text("F"), "looks(1, #)", 2, 2, 1, 0);
    }

    /** abc, abd, b: a fork at 6, to its left one at 21. */
    static void terms2_theFirstForkAboveDiffIsALaterOne() {
        Run run = NEW.words("abc", "abd", "b");
        row(run.text("axd"), "looks(0, #)", 1, 11, 1, 2);
        row(run.text("axc"), "looks(0, #)", 0, 11, 1, 2);
        row(run.text("aAd"), "looks(0, #)", 1, 10, 1, 0);
        row(run.text("a"), "looks(0, #)", 0, 9, 1, 0);
    }

    static void terms2_behindItsEndAWordGoesLeft() {
        row(NEW.words("abc", "abd").text("ab"), "looks(0, #)", 0, 17, 1, 0);
        row(NEW.words(A23 + "b", A23 + "c").text("a"), "looks(0, #)", 0, 9, 1, 0);
        row(NEW.words(A23 + "b", A23 + "c").text("b"), "looks(0, #)", 0, 6, 1, 2);
    }

    static void terms2_aForkAtTheGreatestBit() {
        Run run = NEW.words(A23 + "b", A23 + "c");
        row(run.text(A23 + "b"), "looks(0, #)", 0, NONE, 6, 1);
        row(run.text(A23 + "c"), "looks(0, #)", 1, NONE, 6, 2);
        row(run.text(A23 + "a"), "looks(0, #)", 1, 190, 6, 0);
        row(run.text(A23 + "d"), "looks(0, #)", 0, 189, 6, 2);
    }

    /** The sentence in brackets: so many ENTRIES have HEADS not behind W. */
    static void terms2_placeIsHowManyHeadsAreNotBehindIt() {
        String[] words = {"a", "ab", "abc", "abcdefgh", "abcdefghi", "abd", "b", "B", "Bb", "0", "z", "zz", "m1", A23, A24, A23 + "b", "y9", "yZ", "yz"};
        Run run = NEW.words(words).and("deals(5)");
        long pages = run.ask("all(1)");
        String[] asked = {"a", "aa", "ab0", "abcd", "abcdefghA", "abz", "A", "C", "1", "zzz", "zA", "m", "m2", A23 + "a", A23 + "c", "aaaa", "yA", "9", "x", "Z"};
        for (String w : asked) {
            for (int p = 0; p < pages; p++) {
                Check.due(w + " looks at " + p, run.text(w).ask("looks(" + p + ", 3)"), headsNotBehind(run, p, w));
            }
        }
    }

    /** The heads of a page's entries are told by page() and sign(); of letters and figures ORDER is that of Java's texts. */
    private static int headsNotBehind(Run run, int p, String w) {
        int not = 0, first = 0;
        if (run.ask("page(" + p + ", 0)") > 0) while (run.ask("page(" + first + ", 4)") != p) first++;
        for (int i = 0; i < run.ask("page(" + p + ", 1)"); i++) {
            long k = run.ask("page(" + p + ", 0)") > 0 ? run.ask("page(" + (first + i) + ", 3)") : run.ask("page(" + p + ", 3)") + i;
            if (run.word((int) k).compareTo(w) <= 0) not++;
        }
        return not;
    }

    /** b, d, f | h, j, each so many times; h so many times is the HEAD of page 2. */
    private static Run ofLength(int n) {
        String[] words = new String[5];
        for (int i = 0; i < 5; i++) words[i] = "bdfhj".substring(i, i + 1).repeat(n);
        return NEW.words(words).text("h".repeat(n));
    }

    static void terms2_noPieceIsReadIfTheLastOneIsAheadOfKnown() {
        for (int n = 4; n <= 24; n += 4) {
            Check.due("shape", ofLength(n).shape(), "2|3 2");
            row(ofLength(n), "way(1, #)", 0, 0, 1, NONE, n / 4, 2);
            row(ofLength(n), "way(0, #)", 2, 8 * n, 0, NONE, 0, 1);
        }
    }

    static void terms2_thePieceOfKnownIsReadAgain() {
        for (int n : new int[] {1, 2, 3, 5, 6, 7, 9, 21, 22, 23}) {
            row(ofLength(n), "way(1, #)", 0, 0, 1, NONE, n / 4 + 1, 2);
            row(ofLength(n), "way(0, #)", 2, 8 * n, 0, NONE, 1, 1);
        }
    }

    static void terms2_piecesGoOnWhereTheGuessHasNoSigns() {
        for (int n = 4; n <= 20; n += 4) {
            Run run = NEW.words("a".repeat(n)).text("a".repeat(n + 1));
            row(run, "looks(0, #)", 0, 8 * n + 1, n / 4 + 1, 1);
        }
        row(NEW.words("aaaa").text(A24), "looks(0, #)", 0, 33, 2, 1);
    }

    static void terms2_thePieceOfDiffIsTheLastOneRead() {
        Run run = NEW.words(A24);
        row(run.text("b"), "looks(0, #)", 0, 6, 1, 1);
        row(run.text("aaab"), "looks(0, #)", 0, 30, 1, 1);
        row(run.text("aaaa"), "looks(0, #)", 0, 33, 2, 0);
        row(run.text("aaaaaaaaaaaaaaaaaaaa"), "looks(0, #)", 0, 161, 6, 0);
        row(run.text(A24), "looks(0, #)", 0, NONE, 6, 1);
    }

    // ---- 2: the way

    static void terms2_withPlace0TheWayGoesToEntry0() {
        row(FIVE.text("a"), "way(1, #)", 0, 0, 0, 6, 1, 0);
        row(FIVE.text("a"), "way(0, #)", 1, 6, 0, 6, 1, 0);
    }

    static void terms2_theWayGoesToTheEntryOfPlaceLess1() {
        row(FIVE.text("g"), "way(1, #)", 0, 0, 0, 5, 1, 1);
        row(FIVE.text("g"), "way(0, #)", 1, 5, 2, 7, 1, 3);
        row(FIVE.text("z"), "way(1, #)", 0, 0, 1, 3, 1, 2);
        row(FIVE.text("z"), "way(0, #)", 2, 3, 1, 3, 1, 2);
    }

    /** d and b are alike in 5 bits, but the page's guess in more: known is that of the HEAD. */
    static void terms2_knownIsThatOfTheHead() {
        row(FIVE.text("dd"), "way(0, #)", 1, 5, 1, 9, 1, 2);
    }

    static void terms2_knownIs8TimesTheSignsIfTheyAreTheSame() {
        Check.due("h", FIVE.text("h").ask("way(0, 1)"), 8);
        Check.due("24 times h", ofLength(24).ask("way(0, 1)"), 192);
        Check.due("behind a shorter HEAD", FIVE.text("hh").ask("way(0, 1)"), 9);
    }

    /** W and the HEAD of the page's first entry are alike in so many bits at least. */
    static void terms2_knownBitsAreAlike() {
        for (Run run : SHAPES) {
            String[] words = run.words().split("[ ,]");
            for (String w : new String[] {words[0], words[words.length - 1], words[words.length / 2] + "a", "0", "zz", A24}) {
                Run asks = run.text(w);
                for (int l = 0; l < run.ask("all(2)"); l++) {
                    String head = run.word((int) run.ask("page(" + asks.ask("way(" + l + ", 0)") + ", 3)"));
                    long known = asks.ask("way(" + l + ", 1)");
                    boolean isTop = l == run.ask("all(2)") - 1;
                    int alike = w.equals(head) ? 8 * w.length() : Model.diff(w, head);
                    Check.due(w + " on level " + l, known, isTop ? 0 : alike);
                }
            }
        }
    }

    static void terms2_thereIsWithoutDiffOnLevel0() {
        asked(FIVE.text("d"), "finds(1)", 1);
        asked(FIVE.text("d"), "way(0, 3)", NONE);
        asked(FIVE.text("e"), "finds(1)", 0);
        asked(FIVE.text("e"), "way(0, 3)", 7);
    }

    static void terms2_costIsOfAllLevels() {
        Check.due("on four levels", MOST.text("E").ask("finds(2)"), 4);
        Check.due("24 signs", ofLength(24).ask("finds(2)"), 6);
        Check.due("23 signs", ofLength(23).ask("finds(2)"), 7);
    }
}
