/** Promise 17: page. */
public final class Promise17Test extends Edges {
    public static void main(String[] args) {
        runs(Promise17Test.class, args);
    }

    /** Eight words of 24 signs on one page. */
    private static Run longWords() {
        String[] words = new String[8];
        for (int i = 0; i < 8; i++) words[i] = A23 + "abcdefgh".charAt(i);
        return NEW.and("deals(8)").words(words);
    }

    static void promise17_theLeastPageAndTheGreatest() {
        asked(ONE, "page(0, 2)", 1);
        asked(FIVE, "page(0, 2)", 5);
        asked(FIVE, "page(2, 2)", 2);
        asked(MOST, "page(0, 2)", 48);
        asked(MOST, "page(23, 2)", 3);
    }

    static void promise17_BAD_page() {
        badOutside(ONE, "page(#, 0)", 0, 0);
        badOutside(FIVE, "page(#, 6)", 0, 2);
        badOutside(MOST, "page(#, 3)", 0, 23);
    }

    static void promise17_BAD_what() {
        badOutside(ONE, "page(0, #)", 0, 6);
        badOutside(FIVE, "page(2, #)", 0, 6);
    }

    static void promise17_BAD_withoutWords() {
        for (Run run : new Run[] {NEW, NEW.and("deals(8)"), FIVE.and("anew()"), ONE.does("-m;")}) {
            refused(run, "page(0, 0)", BAD);
            refused(run, "page(-1, 0)", BAD);
            refused(run, "page(0, 7)", BAD);
        }
    }

    static void promise17_aPageThatWentIsBad() {
        asked(FIVE, "page(1, 0)", 0);
        refused(FIVE.takesOut("j"), "page(1, 0)", BAD);
    }

    static void promise17_level() {
        asked(ONE, "page(0, 0)", 0);
        asked(FIVE, "page(0, 0)", 1);
        asked(MOST, "page(0, 0)", 3);
        asked(NEW.signs(new StringBuilder(SIGNS_48).reverse().toString()), "page(0, 0)", 4);
    }

    static void promise17_entriesFrom1To8() {
        asked(ONE, "page(0, 1)", 1);
        asked(longWords(), "page(0, 1)", 8);
        asked(MOST, "page(7, 1)", 4);
    }

    static void promise17_wordsBeneathAPageAbove() {
        row(MOST, "page(#, 2)", 48, 27, 21, 9, 9, 9, 9, 12, 3, 3);
    }

    static void promise17_wordsAheadOfItsHead() {
        asked(ONE, "page(0, 3)", 0);
        asked(FIVE, "page(2, 3)", 3);
        asked(MOST, "page(7, 3)", 36);
        asked(MOST, "page(23, 3)", 45);
    }

    static void promise17_NONE_noPageIsAboveTheTop() {
        asked(ONE, "page(0, 4)", NONE);
        asked(FIVE, "page(0, 4)", NONE);
        asked(FIVE, "page(1, 4)", 0);
        asked(MOST, "page(23, 4)", 7);
    }

    static void promise17_theLongestWayOfOneEntryHasNoFork() {
        asked(ONE, "page(0, 5)", 0);
    }

    static void promise17_theLongestWayOf2EntriesHas1Fork() {
        asked(FIVE, "page(0, 5)", 1);
        asked(FIVE, "page(2, 5)", 1);
        asked(NEW.words(A23 + "b", A23 + "c"), "page(0, 5)", 1);
    }

    /** h .. o differ in their last three bits; each of a, aa, .. parts from all that are longer. */
    static void promise17_theLongestWayOf8EntriesHas3To7Forks() {
        asked(NEW.and("deals(8)").signs("hijklmno"), "page(0, 5)", 3);
        asked(NEW.and("deals(8)").words("a", "aa", "aaa", "aaaa", "aaaaa", "aaaaaa", "aaaaaaa", "aaaaaaaa"), "page(0, 5)", 7);
    }

    static void promise17_theLongestWayLeftAndRight() {
        asked(NEW.signs("abz"), "page(0, 5)", 2);
        asked(NEW.signs("ayz"), "page(0, 5)", 2);
        asked(NEW.signs("abyz"), "page(0, 5)", 2);
        asked(NEW.and("deals(8)").signs("abcyz"), "page(0, 5)", 3);
    }

    static void promise17_weightOfLevel0() {
        asked(ONE, "page(0, 6)", 1);
        asked(NEW.words(A24), "page(0, 6)", 24);
        asked(longWords(), "page(0, 6)", 192);
    }

    static void promise17_weightAboveCountsHeadsOnEachLevel() {
        asked(FIVE, "page(0, 6)", 7);
        asked(FIVE, "page(1, 6)", 3);
        asked(FIVE, "page(2, 6)", 2);
        row(MOST, "page(#, 6)", 71, 39, 30, 12, 12, 12, 12, 16, 3, 3);
    }

    /** aaa b c | dddd e: 10 signs, heads of 3 and 4. */
    static void promise17_weightOfLongHeads() {
        row(NEW.words("aaa", "b", "c", "dddd", "e"), "page(#, 6)", 17, 5, 5);
    }
}
