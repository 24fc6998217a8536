/** Promises 8 and 9: deals, anew. */
public final class DealTest {
    private static final String UP = "EFGHIJKLMNOPQRSTUVWXYZabcdefghijklmnopqrstuvwxyz";

    public static void main(String[] args) {
        shares();
        levels();
        without();
        refused();
        goesOnWithM();
        anew();
        anewKeepsTheRest();
        Check.end();
    }

    private static void dealt(int n, int m, int pages, String shape) {
        BlindPages x = Check.ofSigns(UP.substring(0, n));
        Check.due(n + " words dealt with " + m, x.deals(m), pages);
        Check.due(n + " words dealt with " + m, Check.shape(x), shape);
        Check.due("M", x.all(3), m);
        Check.due("words", Check.words(x).replace(",", "").replace(" ", ""), UP.substring(0, n));
    }

    private static void shares() {
        dealt(1, 4, 1, "1");
        dealt(4, 4, 1, "4");
        dealt(5, 4, 3, "2|3 2");
        dealt(5, 5, 1, "5");
        dealt(8, 8, 1, "8");
        dealt(9, 8, 3, "2|5 4");
        dealt(9, 7, 3, "2|5 4");
        dealt(11, 5, 4, "3|4 4 3");
        dealt(13, 6, 4, "3|5 4 4");
        dealt(16, 4, 5, "4|4 4 4 4");
    }

    private static void levels() {
        dealt(17, 4, 8, "2|3 2|4 4 3 3 3");
        dealt(48, 4, 16, "3|4 4 4|4 4 4 4 4 4 4 4 4 4 4 4");
        dealt(48, 5, 13, "2|5 5|5 5 5 5 5 5 5 5 4 4");
        dealt(48, 6, 11, "2|4 4|6 6 6 6 6 6 6 6");
        dealt(48, 7, 8, "7|7 7 7 7 7 7 6");
        dealt(48, 8, 7, "6|8 8 8 8 8 8");
        dealt(47, 8, 7, "6|8 8 8 8 8 7");
    }

    private static void without() {
        BlindPages x = new BlindPages();
        Check.due("deals without words", x.deals(7), 0);
        Check.due("M", x.all(3), 7);
        Check.due("levels", x.all(2), 0);
        Check.due("a state", x.told(4), 1);
        Check.due("back", x.back(), 0);
        Check.due("M goes back, too", x.all(3), 4);
    }

    private static void refused() {
        BlindPages x = Check.ofSigns("abcde");
        int[] wrong = {3, 9, 0, -1, Integer.MIN_VALUE, Integer.MAX_VALUE};
        for (int m : wrong) Check.due("deals(" + m + ")", x.deals(m), BlindPages.BAD);
        Check.due("refused", Check.refusals(x), "6 0 0");
        Check.due("M", x.all(3), 4);
        Check.due("states", x.told(4), 1);
    }

    private static void goesOnWithM() {
        BlindPages x = Check.ofSigns("abcdef");
        Check.due("deals(6)", x.deals(6), 1);
        Check.add(x, "g");
        Check.due("split of seven", Check.shape(x), "2|4 3");
        Check.due("deals(4)", x.deals(4), 3);
        Check.add(x, "h");
        Check.due("split with 4 not yet", Check.shape(x), "2|4 4");
        Check.add(x, "i");
        Check.due("split with 4", Check.shape(x), "3|4 3 2");
    }

    private static void anew() {
        BlindPages x = Check.ofSigns("abcde");
        x.deals(8);
        Check.due("anew", x.anew(), 5);
        Check.due("words", x.all(0), 0);
        Check.due("pages", x.all(1), 0);
        Check.due("levels", x.all(2), 0);
        Check.due("M as at first", x.all(3), 4);
        Check.due("anew again", x.anew(), 0);
        Check.due("states", x.told(4), 4);
        Check.due("back", x.back(), 3);
        Check.due("back", x.back(), 2);
        Check.due("words", Check.words(x), "a,b,c,d,e");
        Check.due("M", x.all(3), 8);
    }

    private static void anewKeepsTheRest() {
        BlindPages x = Check.ofSigns("ab");
        x.type(-1);
        x.add();
        Check.text(x, "xyz");
        x.anew();
        Check.due("the text stays", x.told(3), 3);
        Check.due("how often refused stays", Check.refusals(x), "1 1 0");
        Check.due("states stay", x.told(4), 2);
        Check.due("the text is a word yet", x.add(), 0);
        Check.due("words", Check.words(x), "xyz");
    }
}
