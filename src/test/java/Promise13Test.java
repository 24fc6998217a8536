/** Promise 13: begins. */
public final class Promise13Test extends Edges {
    public static void main(String[] args) {
        runs(Promise13Test.class, args);
    }

    static void promise13_itselfToo() {
        asked(FIVE.text("b"), "begins(0)", 1);
        asked(NEW.words("ab", "abc").text("ab"), "begins(0)", 2);
        asked(NEW.words(A24).text(A24), "begins(0)", 1);
    }

    static void promise13_noneBeginsWithIt() {
        asked(FIVE.text("c"), "begins(0)", 0);
        asked(FIVE.text("bb"), "begins(0)", 0);
        asked(FIVE.text(A24), "begins(0)", 0);
    }

    static void promise13_aWordDoesNotBeginWithALongerOne() {
        asked(NEW.words(A23).text(A24), "begins(0)", 0);
        asked(NEW.words("ab").text("abc"), "begins(0)", 0);
    }

    static void promise13_asManySignsAsCanBe() {
        asked(NEW.words(A24).text(A23), "begins(0)", 1);
        asked(NEW.words(A24).text("a"), "begins(0)", 1);
        asked(NEW.words(A23 + "b").text(A24), "begins(0)", 0);
        asked(NEW.words(A23 + "c").text(A23 + "b"), "begins(0)", 0);
        asked(NEW.words(A24, A23).text(A23), "begins(0)", 2);
    }

    /** 8 signs, 16 signs: the next sign is that of another part of the word. */
    static void promise13_atEachLength() {
        Run run = NEW;
        for (int n = 1; n <= 24; n++) run = run.words("a".repeat(n));
        for (int n = 1; n <= 24; n++) {
            Check.due(n + " signs", run.text("a".repeat(n)).ask("begins(0)"), 25 - n);
            Check.due("other last sign", run.text("a".repeat(n - 1) + "b").ask("begins(0)"), 0);
            Check.due("ahead of " + n, run.text("a".repeat(n)).ask("begins(1)"), n - 1);
        }
    }

    static void promise13_all48() {
        String[] words = new String[48];
        for (int i = 0; i < 48; i++) words[i] = "m" + SIGNS_48.charAt(i);
        Run run = NEW.words(words);
        asked(run.text("m"), "begins(0)", 48);
        asked(run.text("m"), "begins(1)", 0);
        asked(run.text("mE"), "begins(0)", 1);
        asked(run.text("n"), "begins(0)", 0);
        asked(run.text("n"), "begins(1)", 48);
    }

    static void promise13_howManyAreAheadOfIt() {
        asked(FIVE.text("a"), "begins(1)", 0);
        asked(FIVE.text("b"), "begins(1)", 0);
        asked(FIVE.text("c"), "begins(1)", 1);
        asked(FIVE.text("j"), "begins(1)", 4);
        asked(FIVE.text("k"), "begins(1)", 5);
        asked(MOST.text("E"), "begins(1)", 0);
        asked(MOST.text("z"), "begins(1)", 47);
        asked(MOST.text("zz"), "begins(1)", 48);
    }

    static void promise13_withoutWords() {
        for (Run run : new Run[] {NEW, FIVE.and("anew()"), ONE.does("-m;")}) {
            asked(run.text("m"), "begins(0)", 0);
            asked(run.text("m"), "begins(1)", 0);
        }
    }

    static void promise13_BAD_what() {
        badOutside(FIVE.text("b"), "begins(#)", 0, 1);
        badOutside(NEW.text("b"), "begins(#)", 0, 1);
    }

    static void promise13_NO_theTextIsNoWord() {
        for (String s : NO_WORDS) {
            refused(FIVE.text(s), "begins(0)", NO);
            refused(FIVE.text(s), "begins(1)", NO);
            refused(NEW.text(s), "begins(0)", NO);
        }
    }

    static void promise13_BADIsAheadOfNO() {
        for (String s : NO_WORDS) {
            refused(FIVE.text(s), "begins(2)", BAD);
            refused(NEW.text(s), "begins(-1)", BAD);
        }
    }
}
