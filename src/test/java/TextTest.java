/** Promises 1 to 3: a new object, type, clear. */
public final class TextTest {
    public static void main(String[] args) {
        newObject();
        typing();
        fullText();
        clearing();
        Check.end();
    }

    private static void newObject() {
        BlindPages x = new BlindPages();
        int[] whole = {0, 0, 0, 4, 0, 0, BlindPages.NONE};
        for (int what = 0; what <= 6; what++) Check.due("new: all(" + what + ")", x.all(what), whole[what]);
        for (int what = 0; what <= 4; what++) Check.due("new: told(" + what + ")", x.told(what), 0);
        Check.due("new: page(0, 0)", x.page(0, 0), BlindPages.BAD);
        Check.due("new: sign(0, 0)", x.sign(0, 0), BlindPages.BAD);
        Check.due("new: back()", x.back(), BlindPages.NO);
        BlindPages y = Check.ofSigns("ab");
        Check.due("objects are apart", x.all(0), 0);
        Check.due("objects are apart, too", y.all(0), 2);
    }

    private static void typing() {
        BlindPages x = new BlindPages();
        Check.due("type(0)", x.type(0), 1);
        Check.due("type(127)", x.type(127), 2);
        Check.due("type(-1)", x.type(-1), BlindPages.BAD);
        Check.due("type(128)", x.type(128), BlindPages.BAD);
        Check.due("type(least)", x.type(Integer.MIN_VALUE), BlindPages.BAD);
        Check.due("type(most)", x.type(Integer.MAX_VALUE), BlindPages.BAD);
        Check.due("a byte and 256", x.type(256 + 'a'), BlindPages.BAD);
        Check.due("bytes", x.told(3), 2);
        Check.due("refused", Check.refusals(x), "5 0 0");
    }

    private static void fullText() {
        BlindPages x = new BlindPages();
        for (int i = 1; i <= 120; i++) Check.due("type " + i, x.type('a'), i);
        Check.due("the 121st", x.type('a'), BlindPages.FULL);
        Check.due("BAD is ahead of FULL", x.type(128), BlindPages.BAD);
        Check.due("bytes", x.told(3), 120);
        Check.due("refused", Check.refusals(x), "1 0 1");
        Check.due("clear()", x.clear(), 120);
        Check.due("type behind clear", x.type('a'), 1);
    }

    private static void clearing() {
        BlindPages x = new BlindPages();
        Check.due("clear() of an empty text", x.clear(), 0);
        Check.text(x, "abc");
        Check.due("clear()", x.clear(), 3);
        Check.due("bytes", x.told(3), 0);
        Check.due("clear() again", x.clear(), 0);
        Check.due("refused", Check.refusals(x), "0 0 0");
        Check.due("clear leaves no state", x.told(4), 0);
    }
}
