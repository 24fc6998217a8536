/** Promise 1: a new object. */
public final class Promise01Test extends Edges {
    public static void main(String[] args) {
        runs(Promise01Test.class, args);
    }

    static void promise1_noWords() {
        asked(NEW, "all(0)", 0);
        refused(NEW, "sign(0, 0)", BAD);
        refused(NEW, "parts(0)", BAD);
        refused(NEW.text("a"), "between(0)", BAD);
        asked(NEW.text("a"), "finds(0)", 0);
        asked(NEW.text("a"), "finds(1)", 0);
        asked(NEW.text("a"), "begins(0)", 0);
        asked(NEW.text("a"), "begins(1)", 0);
    }

    static void promise1_noPages() {
        asked(NEW, "all(1)", 0);
        asked(NEW, "all(2)", 0);
        asked(NEW, "all(6)", NONE);
        refused(NEW, "page(0, 0)", BAD);
        refused(NEW, "fork(0, 0, 0)", BAD);
        refused(NEW.text("a"), "looks(0, 0)", BAD);
        refused(NEW.text("a"), "way(0, 0)", BAD);
    }

    static void promise1_noCost() {
        asked(NEW, "all(4)", 0);
        asked(NEW, "all(5)", 0);
        asked(NEW.text("a"), "finds(2)", 0);
    }

    static void promise1_MIs4() {
        asked(NEW, "all(3)", 4);
    }

    static void promise1_theTextIsEmpty() {
        asked(NEW, "told(3)", 0);
        asked(NEW, "clear()", 0);
        refused(NEW, "add()", NO);
        asked(NEW, "does()", -10);
    }

    static void promise1_noStates() {
        asked(NEW, "told(4)", 0);
        refused(NEW, "back()", NO);
    }

    static void promise1_nothingIsRefusedYet() {
        asked(NEW, "told(0)", 0);
        asked(NEW, "told(1)", 0);
        asked(NEW, "told(2)", 0);
    }

    static void promise1_objectsAreApart() {
        BlindPages x = new BlindPages();
        BlindPages y = new BlindPages();
        x.type('q');
        x.add();
        x.deals(8);
        x.type(-1);
        Check.due("words", y.all(0), 0);
        Check.due("M", y.all(3), 4);
        for (int what = 0; what <= 4; what++) Check.due("told(" + what + ")", y.told(what), 0);
        Check.due("a third one", new BlindPages().all(0), 0);
        Check.due("back", y.back(), NO);
        Check.due("the first one's words", x.all(0), 1);
        Check.due("the first one's noes", x.told(1), 0);
    }
}
