/** Promise 14: between. */
public final class Promise14Test extends Edges {
    public static void main(String[] args) {
        runs(Promise14Test.class, args);
    }

    static void promise14_itIsTheKthWord() {
        asked(ONE.text("m"), "between(0)", 1);
        asked(FIVE.text("b"), "between(0)", 1);
        asked(FIVE.text("j"), "between(4)", 1);
    }

    static void promise14_itIsThereAheadOfTheKth() {
        asked(FIVE.text("b"), "between(1)", 2);
        asked(FIVE.text("b"), "between(4)", 5);
        asked(FIVE.text("h"), "between(4)", 2);
    }

    static void promise14_itIsThereBehindTheKth() {
        asked(FIVE.text("d"), "between(0)", 2);
        asked(FIVE.text("j"), "between(0)", 5);
        asked(FIVE.text("j"), "between(3)", 2);
    }

    /** It is not of the index, so only the words of the index count. */
    static void promise14_itIsNotThereAheadOfTheKth() {
        asked(FIVE.text("a"), "between(0)", 1);
        asked(FIVE.text("a"), "between(4)", 5);
        asked(FIVE.text("c"), "between(1)", 1);
        asked(FIVE.text("i"), "between(4)", 1);
    }

    static void promise14_itIsNotThereBehindTheKth() {
        asked(FIVE.text("c"), "between(0)", 1);
        asked(FIVE.text("z"), "between(4)", 1);
        asked(FIVE.text("z"), "between(0)", 5);
        asked(FIVE.text("g"), "between(0)", 3);
    }

    static void promise14_all48() {
        asked(MOST.text("E"), "between(47)", 48);
        asked(MOST.text("z"), "between(0)", 48);
        asked(MOST.text("0"), "between(47)", 48);
        asked(MOST.text("zz"), "between(0)", 48);
    }

    static void promise14_BAD_noSuchWord() {
        badOutside(ONE.text("m"), "between(#)", 0, 0);
        badOutside(FIVE.text("m"), "between(#)", 0, 4);
        badOutside(MOST.text("m"), "between(#)", 0, 47);
    }

    static void promise14_BAD_withoutWords() {
        for (Run run : new Run[] {NEW, FIVE.and("anew()"), ONE.does("-m;")}) {
            refused(run.text("m"), "between(0)", BAD);
            refused(run.text("m"), "between(-1)", BAD);
        }
    }

    static void promise14_NO_theTextIsNoWord() {
        for (String s : NO_WORDS) {
            refused(FIVE.text(s), "between(0)", NO);
            refused(FIVE.text(s), "between(4)", NO);
        }
    }

    static void promise14_BADIsAheadOfNO() {
        for (String s : NO_WORDS) {
            refused(FIVE.text(s), "between(5)", BAD);
            refused(NEW.text(s), "between(0)", BAD);
        }
    }
}
