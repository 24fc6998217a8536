/** Promises 4 and 7: add, draw. */
public final class AddTest {
    private static final String SIGNS_24 = "abcdefghijklmnopqrstuvwx";
    /** All in order, last first: 48 of them. */
    private static final String DOWN = "zyxwvutsrqponmlkjihgfedcbaZYXWVUTSRQPONMLKJIHGFE";

    public static void main(String[] args) {
        order();
        noWord();
        splits();
        splitsByM();
        levels();
        fullIndex();
        drawnWords();
        drawnTwice();
        drawnPastFull();
        drawRefused();
        Check.end();
    }

    private static void order() {
        BlindPages x = new BlindPages();
        Check.due("add a", Check.add(x, "a"), 0);
        Check.due("add Z, ahead of a", Check.add(x, "Z"), 0);
        Check.due("add 9, ahead of Z", Check.add(x, "9"), 0);
        Check.due("add aa, behind a", Check.add(x, "aa"), 3);
        Check.due("words", Check.words(x), "9,Z,a,aa");
        Check.due("add again", x.add(), BlindPages.NO);
        Check.due("a state each", x.told(4), 4);
        Check.due("the text stays", x.told(3), 2);
        Check.due("refused", Check.refusals(x), "0 1 0");
    }

    private static void noWord() {
        BlindPages x = new BlindPages();
        Check.due("add without a text", x.add(), BlindPages.NO);
        String[] none = {"a b", "a;", "+a;", " a", "a/", "a:", "a@", "a[", "a`", "a{", "-", SIGNS_24 + "y"};
        for (String s : none) Check.due("add " + s, Check.add(x, s), BlindPages.NO);
        Check.due("no words", x.all(0), 0);
        Check.due("no states", x.told(4), 0);
        Check.due("refused", Check.refusals(x), "0 13 0");
        Check.due("24 signs", Check.add(x, SIGNS_24), 0);
        Check.due("all 24 stand", Check.word(x, 0), SIGNS_24);
        Check.due("edges of the signs", Check.add(x, "azAZ09"), 1);
        Check.due("edges stand", Check.word(x, 1), "azAZ09");
    }

    private static void splits() {
        BlindPages x = Check.ofSigns("abcd");
        Check.due("M words", Check.words(x), "a,b,c,d");
        Check.due("one level", x.all(2), 1);
        Check.due("add e", Check.add(x, "e"), 4);
        Check.due("split", Check.words(x), "a,b,c d,e");
        Check.due("a new top", Check.shape(x), "2|3 2");
        Check.addSigns(x, "fg");
        Check.due("add A, ahead of all", Check.add(x, "A"), 0);
        Check.due("to the first page", Check.words(x), "A,a,b,c d,e,f,g");
        Check.due("add ca", Check.add(x, "ca"), 4);
        Check.due("to the page of its way", Check.words(x), "A,a,b c,ca d,e,f,g");
        Check.due("a split page's new one is right behind it", Check.shape(x), "3|3 2 4");
    }

    /** Of M and 1 entries half, rounded up, stay. */
    private static void splitsByM() {
        String[] shapes = {"2|3 2", "2|3 3", "2|4 3", "2|4 4", "2|5 4"};
        for (int m = 4; m <= 8; m++) {
            BlindPages x = new BlindPages();
            x.deals(m);
            Check.addSigns(x, "abcdefgh".substring(0, m));
            Check.due("M " + m + " full", Check.shape(x), Integer.toString(m));
            Check.add(x, "z");
            Check.due("M " + m + " split", Check.shape(x), shapes[m - 4]);
        }
    }

    /** Added last first, each split leaves three on the first page: 23, 11, 5, 2 pages and the top. */
    private static void levels() {
        BlindPages x = Check.ofSigns(DOWN);
        Check.due("words", x.all(0), 48);
        Check.due("levels", x.all(2), 5);
        Check.due("shape", Check.shape(x), "2|3 2|3 2 2 2 2|3 2 2 2 2 2 2 2 2 2 2|4 2 2 2 2 2 2 2 2 2 2 2 2 2 2 2 2 2 2 2 2 2 2");
        for (int k = 0; k < 48; k++) Check.due("word " + k, Check.word(x, k), DOWN.substring(47 - k, 48 - k));
    }

    private static void fullIndex() {
        BlindPages x = Check.ofSigns(DOWN);
        long states = x.told(4);
        Check.due("the 49th", Check.add(x, "0"), BlindPages.FULL);
        Check.due("NO is ahead of FULL: there", Check.add(x, "z"), BlindPages.NO);
        Check.due("NO is ahead of FULL: no word", Check.add(x, "z;"), BlindPages.NO);
        Check.due("refused", Check.refusals(x), "0 2 1");
        Check.due("words", x.all(0), 48);
        Check.due("states", x.told(4), states);
        Check.takeOut(x, "z");
        Check.due("the 48th again", Check.add(x, "0"), 0);
    }

    /** The words were found from the promise's rule by another program. */
    private static void drawnWords() {
        BlindPages x = new BlindPages();
        Check.due("draw(0, 8, 5, 26)", x.draw(0, 8, 5, 26), 8);
        Check.due("words", Check.words(x), "bfyz,gm,hib mr,rk robd,s,t");
        BlindPages y = new BlindPages();
        Check.due("draw(999999, 8, 24, 26)", y.draw(999999, 8, 24, 26), 8);
        Check.due("words", Check.words(y),
            "cwyydsgumoqykgezggdokwbe,eulqr,jrjibjzrjzqbfizz,layqtoruoqctehtn ohvx,p sldqbxryovtjtuflu,uvwank");
        BlindPages z = new BlindPages();
        Check.due("draw(42, 1, 24, 26)", z.draw(42, 1, 24, 26), 1);
        Check.due("words", Check.words(z), "dh");
        Check.due("draw leaves a state", z.told(4), 1);
        Check.due("and no text", z.told(3), 0);
    }

    private static void drawnTwice() {
        BlindPages x = new BlindPages();
        Check.due("eight times a", x.draw(1, 8, 1, 1), 1);
        Check.due("none new", x.draw(1, 8, 1, 1), 0);
        Check.due("a state all the same", x.told(4), 2);
        BlindPages one = new BlindPages();
        Check.due("s r b h m m i f", one.draw(0, 8, 1, 26), 7);
        Check.due("words", Check.words(one), "b,f,h i,m r,s");
        BlindPages y = new BlindPages();
        Check.due("ba ba b a ab bb b a", y.draw(5, 8, 2, 2), 5);
        Check.due("words", Check.words(y), "a,ab,b ba,bb");
        BlindPages z = new BlindPages();
        Check.due("12, 10, 13, 12 times a", z.draw(3, 4, 24, 1), 3);
        Check.due("words", Check.words(z), "aaaaaaaaaa,aaaaaaaaaaaa,aaaaaaaaaaaaa");
    }

    private static void drawnPastFull() {
        BlindPages x = Check.ofSigns(DOWN);
        Check.takeOut(x, "y");
        Check.takeOut(x, "x");
        Check.due("s robd gm mr ..: two of them", x.draw(0, 8, 5, 26), 2);
        Check.due("words", x.all(0), 48);
        Check.due("no refusal", Check.refusals(x), "0 0 0");
        Check.text(x, "robd");
        Check.due("robd is one", x.finds(1), 1);
        Check.text(x, "gm");
        Check.due("gm is one", x.finds(1), 1);
        Check.text(x, "mr");
        Check.due("mr is none", x.finds(1), 0);
    }

    private static void drawRefused() {
        BlindPages x = new BlindPages();
        int[][] wrong = {{-1, 1, 1, 1}, {1000000, 1, 1, 1}, {0, 0, 1, 1}, {0, 9, 1, 1}, {0, 1, 0, 1}, {0, 1, 25, 1},
            {0, 1, 1, 0}, {0, 1, 1, 27}, {Integer.MIN_VALUE, Integer.MAX_VALUE, Integer.MIN_VALUE, Integer.MAX_VALUE}};
        for (int[] a : wrong) {
            Check.due("draw(" + a[0] + ", " + a[1] + ", " + a[2] + ", " + a[3] + ")", x.draw(a[0], a[1], a[2], a[3]), BlindPages.BAD);
        }
        Check.due("refused", Check.refusals(x), "9 0 0");
        Check.due("no states", x.told(4), 0);
        Check.due("no words", x.all(0), 0);
    }
}
