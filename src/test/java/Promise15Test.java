/** Promise 15: sign. */
public final class Promise15Test extends Edges {
    public static void main(String[] args) {
        runs(Promise15Test.class, args);
    }

    static void promise15_theFirstWordAndTheLast() {
        asked(ONE, "sign(0, 0)", 'm');
        asked(FIVE, "sign(0, 0)", 'b');
        asked(FIVE, "sign(4, 0)", 'j');
        asked(MOST, "sign(0, 0)", 'E');
        asked(MOST, "sign(47, 0)", 'z');
    }

    static void promise15_theLastSign() {
        asked(NEW.words("abc"), "sign(0, 2)", 'c');
        asked(NEW.words(A23 + "z"), "sign(0, 23)", 'z');
    }

    static void promise15_eachOf24Signs() {
        String word = "aZ09bcdefghiAjklmnopqrsz";
        Run run = NEW.words(word);
        for (int i = 0; i < 24; i++) Check.due("sign(0, " + i + ")", run.ask("sign(0, " + i + ")"), word.charAt(i));
    }

    static void promise15_asAByte() {
        asked(NEW.words("0"), "sign(0, 0)", 48);
        asked(NEW.words("z"), "sign(0, 0)", 122);
    }

    static void promise15_NONE_notSoMany() {
        asked(ONE, "sign(0, 1)", NONE);
        asked(NEW.words("abc"), "sign(0, 3)", NONE);
        asked(NEW.words(A24), "sign(0, 24)", NONE);
        asked(NEW.words(A24), "sign(0, 25)", NONE);
        asked(NEW.words(A24), "sign(0, most)", NONE);
        asked(ONE, "sign(0, most)", NONE);
        for (int i = 8; i < 64; i++) Check.due("sign(0, " + i + ")", NEW.words("aaaaaaaa").ask("sign(0, " + i + ")"), NONE);
    }

    static void promise15_BAD_word() {
        badOutside(ONE, "sign(#, 0)", 0, 0);
        badOutside(FIVE, "sign(#, 0)", 0, 4);
        badOutside(MOST, "sign(#, 0)", 0, 47);
    }

    static void promise15_BAD_iBelow0() {
        badBelow(ONE, "sign(0, #)", 0);
        badBelow(FIVE, "sign(4, #)", 0);
    }

    static void promise15_BAD_withoutWords() {
        for (Run run : new Run[] {NEW, FIVE.and("anew()"), ONE.does("-m;")}) refused(run, "sign(0, 0)", BAD);
    }

    /** NONE is no refusal: a word that is not there is BAD also where it would not have so many signs. */
    static void promise15_BADIsAheadOfNONE() {
        refused(FIVE, "sign(5, 24)", BAD);
        refused(FIVE, "sign(-1, most)", BAD);
        refused(NEW, "sign(0, most)", BAD);
    }
}
