/** Promise 18: fork. */
public final class Promise18Test extends Edges {
    /** Each word begins the next one: seven forks one behind another, to the right. */
    private static final Run CHAIN = NEW.and("deals(8)").words("a", "aa", "aaa", "aaaa", "aaaaa", "aaaaaa", "aaaaaaa", "aaaaaaaa");

    public static void main(String[] args) {
        runs(Promise18Test.class, args);
    }

    static void promise18_theLeastNumbersAreTaken() {
        asked(FIVE, "fork(0, 0, 0)", 4);
    }

    static void promise18_theGreatestNumbersAreTaken() {
        asked(FIVE, "fork(2, 0, 3)", 0);
        asked(FIVE, "fork(1, 1, 3)", 1);
        asked(MOST, "fork(23, 1, 3)", 1);
        asked(CHAIN, "fork(0, 6, 3)", 6);
    }

    static void promise18_BAD_page() {
        badOutside(FIVE, "fork(#, 0, 0)", 0, 2);
        badOutside(MOST, "fork(#, 0, 3)", 0, 23);
    }

    static void promise18_BAD_fork() {
        badOutside(FIVE, "fork(0, #, 0)", 0, 0);
        badOutside(FIVE, "fork(1, #, 3)", 0, 1);
        badOutside(FIVE, "fork(2, #, 0)", 0, 0);
        badOutside(CHAIN, "fork(0, #, 0)", 0, 6);
    }

    static void promise18_BAD_what() {
        badOutside(FIVE, "fork(0, 0, #)", 0, 3);
        badOutside(CHAIN, "fork(0, 6, #)", 0, 3);
    }

    static void promise18_BAD_oneEntryHasNoFork() {
        refused(ONE, "fork(0, 0, 0)", BAD);
        refused(ONE, "fork(0, -1, 0)", BAD);
    }

    static void promise18_BAD_withoutWords() {
        for (Run run : new Run[] {NEW, NEW.and("deals(8)"), FIVE.and("anew()"), ONE.does("-m;")}) {
            refused(run, "fork(0, 0, 0)", BAD);
            refused(run, "fork(0, -1, 0)", BAD);
            refused(run, "fork(-1, 0, 0)", BAD);
        }
    }

    static void promise18_bitFrom1To191() {
        asked(NEW.words("9", "A"), "fork(0, 0, 0)", 1);
        asked(NEW.words(A23 + "b", A23 + "c"), "fork(0, 0, 0)", 191);
        row(CHAIN, "fork(0, #, 0)", 9, 17, 25, 33, 41, 49, 57);
    }

    static void promise18_leftFrom1To7() {
        row(CHAIN, "fork(0, #, 1)", 1, 1, 1, 1, 1, 1, 1);
        asked(NEW.and("deals(8)").signs("abcdefgz"), "fork(0, 0, 1)", 7);
    }

    static void promise18_rightFrom1To7() {
        row(CHAIN, "fork(0, #, 2)", 7, 6, 5, 4, 3, 2, 1);
        asked(NEW.and("deals(8)").signs("0abcdefg"), "fork(0, 0, 2)", 7);
    }

    static void promise18_forksAboveFrom0To6() {
        row(CHAIN, "fork(0, #, 3)", 0, 1, 2, 3, 4, 5, 6);
    }

    /** The heads of the top's pages are b and h, not all words. */
    static void promise18_ofAPageAboveOverTheHeads() {
        row(FIVE, "fork(0, 0, #)", 4, 1, 1, 0);
        refused(FIVE, "fork(0, 1, 0)", BAD);
    }
}
