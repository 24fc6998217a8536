/** Promise 11: way. */
public final class Promise11Test extends Edges {
    public static void main(String[] args) {
        runs(Promise11Test.class, args);
    }

    static void promise11_theLeastLevelAndTheGreatest() {
        asked(ONE.text("m"), "way(0, 0)", 0);
        asked(FIVE.text("j"), "way(0, 0)", 2);
        asked(FIVE.text("j"), "way(1, 0)", 0);
        asked(MOST.text("z"), "way(0, 0)", 23);
        asked(MOST.text("z"), "way(3, 0)", 0);
    }

    static void promise11_theLeastWhatAndTheGreatest() {
        asked(FIVE.text("g"), "way(0, 0)", 1);
        asked(FIVE.text("g"), "way(0, 5)", 3);
    }

    static void promise11_BAD_level() {
        badOutside(ONE.text("m"), "way(#, 0)", 0, 0);
        badOutside(FIVE.text("m"), "way(#, 5)", 0, 1);
        badOutside(MOST.text("m"), "way(#, 3)", 0, 3);
    }

    static void promise11_BAD_aLevelThatWentWithTheTop() {
        asked(FIVE.text("b"), "way(1, 0)", 0);
        refused(FIVE.takesOut("j").text("b"), "way(1, 0)", BAD);
        refused(FIVE.and("deals(8)").text("b"), "way(1, 0)", BAD);
    }

    static void promise11_BAD_noLevelWithoutPages() {
        for (Run run : new Run[] {NEW, NEW.and("deals(8)"), FIVE.and("anew()"), ONE.does("-m;"), FIVE.and("back()")}) {
            for (String l : new String[] {"0", "1", "-1", "least", "most"}) refused(run.text("m"), "way(" + l + ", 0)", BAD);
            refused(run.text("m"), "way(0, 5)", BAD);
        }
    }

    static void promise11_BAD_what() {
        badOutside(FIVE.text("b"), "way(0, #)", 0, 5);
        badOutside(FIVE.text("b"), "way(1, #)", 0, 5);
    }

    static void promise11_NO_theTextIsNoWord() {
        for (String s : NO_WORDS) {
            refused(FIVE.text(s), "way(0, 0)", NO);
            refused(FIVE.text(s), "way(1, 5)", NO);
        }
    }

    static void promise11_BADIsAheadOfNO() {
        for (String s : NO_WORDS) {
            refused(FIVE.text(s), "way(2, 0)", BAD);
            refused(FIVE.text(s), "way(0, 6)", BAD);
            refused(NEW.text(s), "way(0, 0)", BAD);
        }
    }

    static void promise11_knownFrom0To192() {
        String[] words = new String[5];
        for (int i = 0; i < 5; i++) words[i] = A23 + "bdfhj".charAt(i);
        Run run = NEW.words(words);
        Check.due("shape", run.shape(), "2|3 2");
        asked(run.text(A23 + "h"), "way(1, 1)", 0);
        asked(run.text(A23 + "h"), "way(0, 1)", 192);
        asked(run.text(A23 + "i"), "way(0, 1)", 191);
        asked(run.text("0"), "way(0, 1)", 1);
    }

    static void promise11_theGuessIsTheFirstOrTheLastOf8() {
        Run run = NEW.and("deals(8)").signs("abcdefgh");
        asked(run.text("a"), "way(0, 2)", 0);
        asked(run.text("h"), "way(0, 2)", 7);
    }

    static void promise11_diffNONEAndFrom1To191() {
        asked(FIVE.text("d"), "way(0, 3)", NONE);
        asked(FIVE.text("h"), "way(1, 3)", NONE);
        asked(FIVE.text("0"), "way(0, 3)", 1);
        asked(NEW.words(A23 + "b").text(A23 + "c"), "way(0, 3)", 191);
    }

    static void promise11_piecesFrom0To6() {
        Run run = NEW.words("aaaa", "bbbb", "cccc", "dddd", "eeee");
        asked(run.text("dddd"), "way(0, 4)", 0);
        asked(run.text("aaaa"), "way(0, 4)", 0);
        asked(run.text("dddd"), "way(1, 4)", 1);
        asked(run.text("eeee"), "way(0, 4)", 1);
        asked(NEW.words(A24).text(A24), "way(0, 4)", 6);
        asked(NEW.words(A23 + "b").text(A23 + "c"), "way(0, 4)", 6);
    }

    static void promise11_placeFrom0To8() {
        Run run = NEW.and("deals(8)").signs("abcdefgh");
        asked(run.text("A"), "way(0, 5)", 0);
        asked(run.text("a"), "way(0, 5)", 1);
        asked(run.text("h"), "way(0, 5)", 8);
        asked(run.text("z"), "way(0, 5)", 8);
        asked(FIVE.text("a"), "way(1, 5)", 0);
        asked(FIVE.text("z"), "way(1, 5)", 2);
    }
}
