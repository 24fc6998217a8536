/** Promise 6: does. */
public final class OrdersTest {
    private static final String SIGNS_24 = "abcdefghijklmnopqrstuvwx";

    public static void main(String[] args) {
        done();
        passedOver();
        faults();
        faultCountsNothing();
        longTexts();
        Check.end();
    }

    private static void done() {
        BlindPages x = new BlindPages();
        Check.due("two words, one back", Check.does(x, "+ab;+B;-ab;"), 3);
        Check.due("words", Check.words(x), "B");
        Check.due("the text stays", x.told(3), 11);
        Check.due("one state", x.told(4), 1);
        Check.due("again", x.does(), 2);
        Check.due("back to the state ahead of all orders", x.back(), 1);
        Check.due("words", Check.words(x), "B");
        Check.due("back", x.back(), 0);
        Check.due("words", Check.words(x), "");
    }

    private static void passedOver() {
        BlindPages x = new BlindPages();
        Check.due("none can be done", Check.does(x, "-a;-b;"), 0);
        Check.due("a state all the same", x.told(4), 1);
        Check.due("some", Check.does(x, "-a;+a;+a;+b;-c;-a;"), 3);
        Check.due("words", Check.words(x), "b");
        Check.due("no refusal", Check.refusals(x), "0 0 0");
        for (int i = 0; i < 6; i++) x.draw(100 + i, 8, 24, 26);
        Check.due("48 words", x.all(0), 48);
        Check.due("the 49th is passed over", Check.does(x, "+0;-b;+1;+2;"), 2);
        Check.due("48 words still", x.all(0), 48);
        Check.text(x, "1");
        Check.due("1 is there", x.finds(1), 1);
        Check.due("no refusal yet", Check.refusals(x), "0 0 0");
    }

    private static void fault(String text, int place) {
        BlindPages x = Check.ofSigns("q");
        Check.due("does " + text, Check.does(x, text), -10 - place);
        Check.due("words", Check.words(x), "q");
        Check.due("refused", Check.refusals(x), "0 0 0");
        Check.due("states", x.told(4), 1);
        Check.due("bytes", x.told(3), text.length());
    }

    private static void faults() {
        fault("", 0);
        fault("+", 1);
        fault("-", 1);
        fault("+a", 2);
        fault("+ab", 3);
        fault("a", 0);
        fault(";", 0);
        fault(" +a;", 0);
        fault("+;", 1);
        fault("++a;", 1);
        fault("+-a;", 1);
        fault("+a+b;", 2);
        fault("+a ;", 2);
        fault("+a;;", 3);
        fault("+a;b;", 3);
        fault("+a;+", 4);
        fault("+a;+b", 5);
        fault("+a@;", 2);
        fault("+a[;", 2);
        fault("+a`;", 2);
        fault("+a{;", 2);
        fault("+a/;", 2);
        fault("+a:;", 2);
        fault("-q;x", 3);
        fault("+" + SIGNS_24, 25);
        fault("+" + SIGNS_24 + "y;", 25);
        fault("+a;-" + SIGNS_24 + "y;", 28);
        fault("+" + SIGNS_24 + "yz @", 25);
    }

    private static void faultCountsNothing() {
        BlindPages x = new BlindPages();
        Check.due("24 signs are no fault", Check.does(x, "+" + SIGNS_24 + ";"), 1);
        Check.due("a later fault leaves the earlier orders undone", Check.does(x, "-" + SIGNS_24 + ";+"), -10 - 27);
        Check.due("words", x.all(0), 1);
        Check.due("states", x.told(4), 1);
    }

    private static void longTexts() {
        BlindPages x = new BlindPages();
        String forty = "ABCDEFGHIJKLMNOPQRSTabcdefghijklmnopqrst";
        Check.due("40 orders in 120 bytes", Check.does(x, Check.orders('+', forty)), 40);
        Check.due("bytes", x.told(3), 120);
        Check.due("words", x.all(0), 40);
        Check.due("none again", x.does(), 0);
        fault(Check.orders('+', forty).substring(0, 119) + "a", 120);
    }
}
