/** Promise 4: add; with it how a WORD is ADDED. */
public final class Promise04Test extends Edges {
    public static void main(String[] args) {
        runs(Promise04Test.class, args);
    }

    static void promise4_theFirstWordComesToANewPage() {
        leavesAState(NEW.text("m"), "add()", 0);
        Check.due("shape", NEW.text("m").and("add()").shape(), "1");
        Check.due("levels", NEW.text("m").and("add()").ask("all(2)"), 1);
    }

    static void promise4_aheadOfAll() {
        leavesAState(FIVE.text("a"), "add()", 0);
        Check.due("words", FIVE.text("a").and("add()").words(), "a,b,d,f h,j");
    }

    static void promise4_behindAll() {
        leavesAState(FIVE.text("z"), "add()", 5);
        Check.due("words", FIVE.text("z").and("add()").words(), "b,d,f h,j,z");
    }

    static void promise4_betweenTwoPages() {
        leavesAState(FIVE.text("g"), "add()", 3);
        Check.due("words", FIVE.text("g").and("add()").words(), "b,d,f,g h,j");
    }

    static void promise4_aWordOf24Signs() {
        leavesAState(FIVE.text(A24), "add()", 0);
        row(FIVE.text(A23 + "z").and("add()"), "sign(0, #)", 'a', 'a', 'a', 'a', 'a', 'a', 'a', 'a', 'a', 'a', 'a', 'a', 'a', 'a', 'a', 'a',
            'a', 'a', 'a', 'a', 'a', 'a', 'a', 'z', NONE);
    }

    static void promise4_NO_theTextIsNoWord() {
        for (String s : NO_WORDS) {
            refused(NEW.text(s), "add()", NO);
            refused(FIVE.text(s), "add()", NO);
        }
    }

    static void promise4_NO_25Signs() {
        refused(NEW.text(A24 + "a"), "add()", NO);
        refused(NEW.text("a".repeat(120)), "add()", NO);
    }

    static void promise4_NO_itIsThere() {
        refused(ONE.text("m"), "add()", NO);
        for (String s : "bdfhj".split("")) refused(FIVE.text(s), "add()", NO);
        refused(NEW.text(A24).and("add()"), "add()", NO);
    }

    static void promise4_aBeginningOfAWordIsAnotherWord() {
        leavesAState(NEW.words("abc").text("ab"), "add()", 0);
        leavesAState(NEW.words("abc").text("abcd"), "add()", 1);
        leavesAState(NEW.words(A24).text(A23), "add()", 0);
        leavesAState(NEW.words(A23).text(A24), "add()", 1);
    }

    static void promise4_theOtherCaseIsAnotherWord() {
        leavesAState(FIVE.text("B"), "add()", 0);
        leavesAState(NEW.words("B").text("b"), "add()", 1);
    }

    static void promise4_the48thIsTaken() {
        leavesAState(NEW.signs(SIGNS_48.substring(0, 47)).text("z"), "add()", 47);
        leavesAState(NEW.signs(SIGNS_48.substring(1)).text("E"), "add()", 0);
    }

    static void promise4_FULL_the49th() {
        refused(MOST.text("0"), "add()", FULL);
        refused(MOST.text("zz"), "add()", FULL);
        refused(MOST.text(A24), "add()", FULL);
        refused(MOST.text("0").and("add()"), "add()", FULL);
    }

    static void promise4_NOIsAheadOfFULL_noWord() {
        for (String s : NO_WORDS) refused(MOST.text(s), "add()", NO);
    }

    static void promise4_NOIsAheadOfFULL_there() {
        refused(MOST.text("E"), "add()", NO);
        refused(MOST.text("z"), "add()", NO);
        refused(MOST.text("a"), "add()", NO);
    }

    static void promise4_behindFULLThereIsRoomAgain() {
        leavesAState(MOST.takesOut("z").text("0"), "add()", 0);
        refused(MOST.takesOut("z").text("0").and("add()").text("1"), "add()", FULL);
    }

    static void promise4_theTextStays() {
        Check.due("bytes", NEW.text("abc").and("add()").ask("told(3)"), 3);
        refused(NEW.text("abc").and("add()"), "add()", NO);
    }

    static void promise4_the6thStateAndThe7th() {
        Run run = NEW;
        for (int i = 0; i < 8; i++) {
            run = run.text("abcdefgh".substring(i, i + 1));
            leavesAState(run, "add()", i);
            run = run.and("add()");
            Check.due("states", run.states(), Math.min(i + 1, 6));
        }
    }

    static void promise4_MEntriesAreNotSplit() {
        for (int m = 4; m <= 8; m++) {
            Check.due("M " + m, NEW.and("deals(" + m + ")").signs("abcdefgh".substring(0, m)).shape(), Integer.toString(m));
        }
    }

    static void promise4_ofMAnd1HalfRoundedUpStay() {
        String[] words = {"a,b,c d,e", "a,b,c d,e,f", "a,b,c,d e,f,g", "a,b,c,d e,f,g,h", "a,b,c,d,e f,g,h,i"};
        for (int m = 4; m <= 8; m++) {
            Run run = NEW.and("deals(" + m + ")").signs("abcdefghi".substring(0, m + 1));
            Check.due("M " + m, run.words(), words[m - 4]);
            Check.due("M " + m + ", a new top", run.ask("page(0, 1)"), 2);
            Check.due("M " + m + ", levels", run.ask("all(2)"), 2);
        }
    }

    static void promise4_theWordAddedCanBeOnEitherPage() {
        Check.due("the first", NEW.signs("bcdea").words(), "a,b,c d,e");
        Check.due("the third", NEW.signs("abdec").words(), "a,b,c d,e");
        Check.due("the fourth", NEW.signs("abced").words(), "a,b,c d,e");
    }

    static void promise4_theNewPageIsRightBehindTheSplitOne() {
        Check.due("of the first page", FIVE.signs("ac").words(), "a,b,c d,f h,j");
        Check.due("of the last page", FIVE.signs("klm").words(), "b,d,f h,j,k l,m");
        Check.due("shape", FIVE.signs("ac").shape(), "3|3 2 2");
    }

    static void promise4_pagesAboveAreSplitToo() {
        String signs = "abcdefghijklmn";
        Check.due("13", NEW.signs(signs.substring(0, 13)).shape(), "4|3 3 3 4");
        Check.due("14", NEW.signs(signs).shape(), "2|3 2|3 3 3 3 2");
    }

    /** Added last first, all but the first page are of two: as many pages and levels as can be. */
    static void promise4_asManyLevelsAsCanBe() {
        Run run = NEW.signs(new StringBuilder(SIGNS_48).reverse().toString());
        Check.due("shape", run.shape(), "2|3 2|3 2 2 2 2|3 2 2 2 2 2 2 2 2 2 2|4 2 2 2 2 2 2 2 2 2 2 2 2 2 2 2 2 2 2 2 2 2 2");
        Check.due("words", run.words().replace(",", "").replace(" ", ""), SIGNS_48);
        refused(run.text("0"), "add()", FULL);
    }
}
