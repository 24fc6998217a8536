/** Promises 20 to 22: back, told, digest. */
public final class StatesTest {
    public static void main(String[] args) {
        back();
        sixAtMost();
        whatLeavesOne();
        pagesGoBack();
        told();
        digestByHand();
        digestByCalls();
        Check.end();
    }

    private static void back() {
        BlindPages x = new BlindPages();
        Check.due("back without states", x.back(), BlindPages.NO);
        Check.add(x, "a");
        Check.add(x, "b");
        Check.text(x, "text");
        Check.due("back", x.back(), 1);
        Check.due("words", Check.words(x), "a");
        Check.due("the text stays", x.told(3), 4);
        Check.add(x, "c");
        Check.add(x, "B");
        Check.due("words", Check.words(x), "B,a,c");
        Check.takeOut(x, "c");
        Check.takeOut(x, "B");
        String[] before = {"", "a", "a,c", "B,a,c", "B,a"};
        for (int i = 4; i >= 0; i--) {
            Check.due("back", x.back(), i);
            Check.due("words", Check.words(x), before[i]);
        }
        Check.due("back", x.back(), BlindPages.NO);
        Check.due("refused", Check.refusals(x), "0 2 0");
    }

    private static void sixAtMost() {
        BlindPages x = new BlindPages();
        for (int i = 0; i < 9; i++) {
            Check.add(x, "abcdefghi".substring(i, i + 1));
            Check.due("states", x.told(4), Math.min(i + 1, 6));
        }
        for (int i = 5; i >= 0; i--) {
            Check.due("back", x.back(), i);
            Check.due("words", x.all(0), i + 3);
        }
        Check.due("older ones are lost", x.back(), BlindPages.NO);
        Check.due("words", Check.words(x), "a,b,c");
        for (int i = 0; i < 7; i++) x.deals(4 + i % 5);
        Check.due("states", x.told(4), 6);
        for (int i = 5; i >= 0; i--) Check.due("back", x.back(), i);
        Check.due("M", x.all(3), 4);
    }

    private static void whatLeavesOne() {
        BlindPages x = Check.ofSigns("abcde");
        x.back();
        x.type('q');
        x.clear();
        x.finds(0);
        x.way(0, 0);
        x.looks(0, 0);
        x.begins(0);
        x.between(0);
        x.sign(0, 0);
        x.parts(0);
        x.page(0, 0);
        x.fork(0, 0, 0);
        x.all(0);
        x.told(0);
        x.digest();
        x.add();
        x.takeOut();
        x.does();
        x.draw(-1, 1, 1, 1);
        x.deals(3);
        Check.due("none of questions and refusals", x.told(4), 0);
        Check.add(x, "a");
        Check.due("add", x.told(4), 1);
        Check.takeOut(x, "a");
        Check.due("takeOut", x.told(4), 2);
        Check.does(x, "-a;");
        Check.due("does", x.told(4), 3);
        x.draw(1, 1, 1, 1);
        Check.due("draw", x.told(4), 4);
        x.deals(4);
        Check.due("deals", x.told(4), 5);
        x.anew();
        Check.due("anew", x.told(4), 6);
    }

    /** The pages come back as they were, not only the words. */
    private static void pagesGoBack() {
        BlindPages x = Check.ofSigns("abcdefgh");
        String before = Check.words(x);
        Check.due("before", before, "a,b,c d,e,f g,h");
        Check.takeOut(x, "h");
        Check.due("taken out", Check.words(x), "a,b,c d,e,f,g");
        x.deals(8);
        Check.due("dealt", Check.words(x), "a,b,c,d,e,f,g");
        x.back();
        Check.due("back", Check.words(x), "a,b,c d,e,f,g");
        Check.due("M", x.all(3), 4);
        x.back();
        Check.due("back", Check.words(x), before);
        Check.due("goes on from there", Check.add(x, "i"), 8);
        Check.due("words", Check.words(x), "a,b,c d,e,f g,h,i");
    }

    private static void told() {
        BlindPages x = new BlindPages();
        Check.due("told(-1)", x.told(-1), BlindPages.BAD);
        Check.due("told(5)", x.told(5), BlindPages.BAD);
        Check.due("told(least)", x.told(Integer.MIN_VALUE), BlindPages.BAD);
        Check.due("told(most)", x.told(Integer.MAX_VALUE), BlindPages.BAD);
        Check.due("BAD", x.told(0), 4);
        x.add();
        x.takeOut();
        x.finds(0);
        x.does();
        Check.due("NO", x.told(1), 3);
        for (int i = 0; i < 123; i++) x.type('a');
        Check.due("FULL", x.told(2), 3);
        Check.due("bytes", x.told(3), 120);
        Check.due("states", x.told(4), 0);
    }

    /** Sums by another program from the promise's values. */
    private static void digestByHand() {
        BlindPages x = new BlindPages();
        Check.due("digest of none", x.digest(), -4159807038399722050L);
        Check.add(x, "a1");
        Check.due("digest of a1", x.digest(), 8038095841847490609L);
        BlindPages y = new BlindPages();
        Check.add(y, "B");
        Check.add(y, "a");
        Check.due("digest of B, a", y.digest(), 3162329828189993727L);
        Check.due("digest again", y.digest(), 3162329828189993727L);
        Check.due("nothing is refused", Check.refusals(y), "0 0 0");
        Check.takeOut(y, "B");
        Check.due("digest of a", y.digest(), -2065547363797850722L);
    }

    private static long sum(BlindPages x) {
        long h = 2243;
        for (int what = 0; what <= 4; what++) h = 31 * h + x.told(what);
        for (int what = 0; what <= 6; what++) h = 31 * h + x.all(what);
        for (int p = 0; p < x.all(1); p++) {
            for (int what = 0; what <= 6; what++) h = 31 * h + x.page(p, what);
            for (int f = 0; f < x.page(p, 1) - 1; f++) {
                for (int what = 0; what <= 2; what++) h = 31 * h + x.fork(p, f, what);
            }
        }
        for (int k = 0; k < x.all(0); k++) {
            for (int i = 0; x.sign(k, i) != BlindPages.NONE; i++) h = 31 * h + x.sign(k, i);
        }
        return h;
    }

    /** On a new object each time: to sum up takes a few hundred calls. */
    private static void digestByCalls() {
        for (int m = 4; m <= 8; m++) {
            for (int draws = 1; draws <= 3; draws++) {
                BlindPages x = new BlindPages();
                x.deals(m);
                for (int i = 0; i < draws; i++) x.draw(m * 10 + i, 8, 4, 26);
                x.told(5);
                x.add();
                Check.due("digest, M " + m + ", " + draws, x.digest(), sum(x));
            }
        }
    }
}
