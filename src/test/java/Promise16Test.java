/** Promise 16: parts. */
public final class Promise16Test extends Edges {
    public static void main(String[] args) {
        runs(Promise16Test.class, args);
    }

    static void promise16_theFirstTwoAndTheLastTwo() {
        asked(FIVE, "parts(0)", 5);
        asked(FIVE, "parts(3)", 6);
        asked(MOST, "parts(0)", 6);
        asked(MOST, "parts(46)", 6);
    }

    static void promise16_alsoOnTwoPages() {
        asked(FIVE, "parts(2)", 4);
    }

    static void promise16_theLeastBitAndTheGreatest() {
        asked(NEW.words("9", "A"), "parts(0)", 1);
        asked(NEW.words(A23 + "b", A23 + "c"), "parts(0)", 191);
    }

    static void promise16_behindTheEndOfTheFirst() {
        asked(NEW.words("a", "aa"), "parts(0)", 9);
        asked(NEW.words(A23, A23 + "1"), "parts(0)", 186);
    }

    static void promise16_atTheEdgesOf8Signs() {
        asked(NEW.words("aaaaaaab", "aaaaaaac"), "parts(0)", 63);
        asked(NEW.words("aaaaaaaaA", "aaaaaaaaa"), "parts(0)", 66);
        asked(NEW.words("aaaaaaaa", "aaaaaaaaa"), "parts(0)", 65);
        asked(NEW.words("aaaaaaaaaaaaaaab", "aaaaaaaaaaaaaaac"), "parts(0)", 127);
        asked(NEW.words("aaaaaaaaaaaaaaaa", "aaaaaaaaaaaaaaaaa"), "parts(0)", 129);
    }

    static void promise16_BAD_noSuchOnes() {
        badOutside(NEW.words("a", "b"), "parts(#)", 0, 0);
        badOutside(FIVE, "parts(#)", 0, 3);
        badOutside(MOST, "parts(#)", 0, 46);
        refused(FIVE, "parts(5)", BAD);
        refused(MOST, "parts(48)", BAD);
    }

    static void promise16_BAD_oneWordHasNoNext() {
        refused(ONE, "parts(0)", BAD);
        refused(ONE, "parts(-1)", BAD);
    }

    static void promise16_BAD_withoutWords() {
        for (Run run : new Run[] {NEW, FIVE.and("anew()"), ONE.does("-m;")}) {
            refused(run, "parts(0)", BAD);
            refused(run, "parts(-1)", BAD);
            refused(run, "parts(-2)", BAD);
        }
    }
}
