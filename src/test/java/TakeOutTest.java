/** Promise 5: takeOut. */
public final class TakeOutTest {
    private static final String UP = "EFGHIJKLMNOPQRSTUVWXYZabcdefghijklmnopqrstuvwxyz";

    public static void main(String[] args) {
        refused();
        joined();
        joinedAhead();
        sharedOut();
        sharedOutAhead();
        halfOfM();
        upwards();
        theLast();
        toNone();
        Check.end();
    }

    private static void refused() {
        BlindPages x = new BlindPages();
        Check.due("without a text", x.takeOut(), BlindPages.NO);
        Check.due("without pages", Check.takeOut(x, "a"), BlindPages.NO);
        Check.addSigns(x, "ab");
        Check.due("no word", Check.takeOut(x, "a;"), BlindPages.NO);
        Check.due("25 signs", Check.takeOut(x, "aaaaaaaaaaaaaaaaaaaaaaaaa"), BlindPages.NO);
        Check.due("not there", Check.takeOut(x, "aa"), BlindPages.NO);
        Check.due("refused", Check.refusals(x), "0 5 0");
        Check.due("one state, of does", x.told(4), 1);
        Check.due("there", Check.takeOut(x, "a"), 1);
        Check.due("a state more", x.told(4), 2);
        Check.due("words", Check.words(x), "b");
        Check.due("not there any more", x.takeOut(), BlindPages.NO);
    }

    private static void joined() {
        BlindPages x = Check.ofSigns("abcde");
        Check.due("take a", Check.takeOut(x, "a"), 4);
        Check.due("half of M stays", Check.words(x), "b,c d,e");
        Check.due("take b", Check.takeOut(x, "b"), 3);
        Check.due("joined with the one behind", Check.words(x), "c,d,e");
        Check.due("the top went", Check.shape(x), "3");
    }

    private static void joinedAhead() {
        BlindPages x = Check.ofSigns("abcde");
        Check.due("take e", Check.takeOut(x, "e"), 4);
        Check.due("M together: joined with the one ahead", Check.words(x), "a,b,c,d");
        Check.due("levels", x.all(2), 1);
    }

    private static void sharedOut() {
        BlindPages x = Check.ofSigns("abcdefg");
        Check.due("before", Check.words(x), "a,b,c d,e,f,g");
        Check.takeOut(x, "c");
        Check.due("take b", Check.takeOut(x, "b"), 5);
        Check.due("five: three and two", Check.words(x), "a,d,e f,g");
    }

    private static void sharedOutAhead() {
        BlindPages x = Check.ofSigns("abdefc");
        Check.due("before", Check.words(x), "a,b,c,d e,f");
        Check.due("take f", Check.takeOut(x, "f"), 5);
        Check.due("five: three and two", Check.words(x), "a,b,c d,e");
        BlindPages y = Check.ofSigns("abcdefgh");
        Check.due("before", Check.words(y), "a,b,c d,e,f g,h");
        Check.takeOut(y, "e");
        Check.takeOut(y, "d");
        Check.due("one that is not the last goes with the one behind", Check.words(y), "a,b,c f,g,h");
    }

    /** Half of M is rounded down; two pages of M and 1 together are shared out. */
    private static void halfOfM() {
        String[] shapes = {"2|3 2", "2|3 3", "2|4 3", "2|4 4", "2|5 4"};
        for (int m = 4; m <= 8; m++) {
            BlindPages x = new BlindPages();
            x.deals(m);
            Check.addSigns(x, "abcdefghi".substring(0, m + 1));
            Check.due("M " + m, Check.shape(x), shapes[m - 4]);
            int first = x.page(1, 1);
            int word = 0;
            for (; first > m / 2; first--) Check.takeOut(x, "abcdefghi".substring(word, ++word));
            Check.due("M " + m + ": half of M stays", x.all(2), 2);
            Check.due("M " + m + ": entries", x.page(1, 1), m / 2);
            Check.takeOut(x, "abcdefghi".substring(word, ++word));
            Check.due("M " + m + ": fewer join", x.all(2), 1);
        }
        BlindPages y = new BlindPages();
        y.deals(5);
        Check.addSigns(y, "abcdefgh");
        Check.due("M 5", Check.words(y), "a,b,c d,e,f,g,h");
        Check.does(y, "-a;-b;");
        Check.due("six: three and three", Check.words(y), "c,d,e f,g,h");
    }

    /** 42 pages on five levels; all but the first are the fewest that may be, so joins go up. */
    private static void upwards() {
        BlindPages x = Check.ofSigns(new StringBuilder(UP).reverse().toString());
        Check.due("levels", x.all(2), 5);
        Check.due("take z", Check.takeOut(x, "z"), 47);
        Check.due("joined on all levels", Check.shape(x), "4|3 2 2 3|3 2 2 2 2 2 2 2 2 3|4 2 2 2 2 2 2 2 2 2 2 2 2 2 2 2 2 2 2 2 2 3");
        BlindPages y = Check.ofSigns(new StringBuilder(UP).reverse().toString());
        for (int k = UP.length() - 1; k >= 0; k--) {
            Check.due("take " + UP.charAt(k), Check.takeOut(y, UP.substring(k, k + 1)), k);
            if (y.all(6) == 1) Check.due("fewest at " + k, 1, 2);
        }
        Check.due("no pages", y.all(1), 0);
    }

    private static void theLast() {
        BlindPages x = Check.ofSigns("a");
        Check.due("take a", Check.takeOut(x, "a"), 0);
        Check.due("no pages", x.all(1), 0);
        Check.due("no levels", x.all(2), 0);
        Check.due("M stays", x.all(3), 4);
        Check.due("a again", Check.add(x, "a"), 0);
        Check.due("shape", Check.shape(x), "1");
    }

    private static void toNone() {
        BlindPages x = Check.ofSigns(UP);
        Check.due("half of them", Check.does(x, Check.orders('-', UP.substring(8, 32))), 24);
        Check.due("the rest", Check.does(x, Check.orders('-', UP.substring(0, 8) + UP.substring(32))), 24);
        Check.due("shape", Check.shape(x), "");
    }
}
