/** Promise 19: all. */
public final class Promise19Test extends Edges {
    public static void main(String[] args) {
        runs(Promise19Test.class, args);
    }

    static void promise19_BAD_what() {
        badOutside(NEW, "all(#)", 0, 6);
        badOutside(FIVE, "all(#)", 0, 6);
    }

    static void promise19_withoutWords() {
        for (Run run : new Run[] {NEW, FIVE.and("anew()"), ONE.does("-m;"), ONE.and("back()")}) {
            int[] want = {0, 0, 0, 4, 0, 0, NONE};
            for (int what = 0; what <= 6; what++) asked(run, "all(" + what + ")", want[what]);
        }
    }

    static void promise19_wordsFrom0To48() {
        asked(ONE, "all(0)", 1);
        asked(MOST, "all(0)", 48);
        asked(MOST.text("0").and("add()"), "all(0)", 48);
    }

    static void promise19_asManyPagesAndLevelsAsCanBe() {
        Run run = NEW.signs(new StringBuilder(SIGNS_48).reverse().toString());
        asked(run, "all(1)", 42);
        asked(run, "all(2)", 5);
        asked(ONE, "all(1)", 1);
        asked(ONE, "all(2)", 1);
        asked(MOST, "all(1)", 24);
        asked(MOST, "all(2)", 4);
    }

    static void promise19_MFrom4To8() {
        for (int m = 4; m <= 8; m++) {
            asked(NEW.and("deals(" + m + ")"), "all(3)", m);
            asked(FIVE.and("deals(" + m + ")"), "all(3)", m);
        }
        asked(FIVE.and("deals(5)", "deals(9)"), "all(3)", 5);
    }

    static void promise19_costOfOneWord() {
        asked(ONE, "all(4)", 1);
        asked(ONE, "all(5)", 1);
        asked(NEW.words(A24), "all(4)", 6);
        asked(NEW.words(A24), "all(5)", 6);
    }

    /** aaaa 1, bbbb 2, cccc 2, dddd 1, eeee 2. */
    static void promise19_costWhereAHeadIsKnownWhole() {
        Run run = NEW.words("aaaa", "bbbb", "cccc", "dddd", "eeee");
        asked(run, "all(4)", 2);
        asked(run, "all(5)", 8);
        asked(FIVE, "all(4)", 2);
        asked(FIVE, "all(5)", 10);
    }

    /** The greatest is neither that of the first word nor that of the last. */
    static void promise19_theGreatestCostOfOne() {
        Run run = NEW.words("a", "bbbbb", "c");
        asked(run, "all(4)", 2);
        asked(run, "all(5)", 4);
    }

    static void promise19_costIsNotOfTheText() {
        asked(ONE.text(A24), "all(4)", 1);
        asked(ONE.text("a;"), "all(5)", 1);
    }

    static void promise19_NONE_thereIsNoPageButTheTop() {
        asked(ONE, "all(6)", NONE);
        asked(NEW.signs("abcd"), "all(6)", NONE);
    }

    static void promise19_fewestEntriesAreNotThoseOfTheTop() {
        asked(FIVE, "all(6)", 2);
        asked(NEW.signs("abcdefgh").and("deals(4)"), "all(6)", 4);
        asked(NEW.signs("abcdefgh").and("deals(4)"), "page(0, 1)", 2);
        asked(NEW.signs(SIGNS_48.substring(0, 25)).and("deals(5)"), "all(6)", 5);
    }

    /** The fewest stand on the first page, on the last one, on a page above. */
    static void promise19_fewestEntriesWhereverTheyStand() {
        asked(FIVE.takesOut("b").signs("kl"), "all(6)", 2);
        asked(NEW.signs("abcdefghijklmnopq").and("deals(4)"), "all(6)", 2);
        asked(NEW.and("deals(8)").signs("abcdefghi").takesOut("a"), "all(6)", 4);
        asked(NEW.and("deals(8)").signs("abcdefghijk"), "all(6)", 5);
    }
}
