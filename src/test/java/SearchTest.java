/** Promises 10 to 14: finds, way, looks, begins, between. */
public final class SearchTest {
    private static final String A23 = "aaaaaaaaaaaaaaaaaaaaaaa";

    public static void main(String[] args) {
        onePage();
        twoLevels();
        known();
        knownBehindPieces();
        wherever();
        without();
        refused();
        begins();
        between();
        Check.end();
    }

    /** looks() 0 to 3 of a word at a page. */
    private static void looks(BlindPages x, String word, int p, String want) {
        Check.text(x, word);
        Check.due(word + " looks at " + p, x.looks(p, 0) + " " + x.looks(p, 1) + " " + x.looks(p, 2) + " " + x.looks(p, 3), want);
    }

    /** way() 0 to 5 of a word on a level. */
    private static void way(BlindPages x, String word, int l, String want) {
        Check.text(x, word);
        StringBuilder s = new StringBuilder();
        for (int what = 0; what <= 5; what++) s.append(what == 0 ? "" : " ").append(x.way(l, what));
        Check.due("way of " + word + " on " + l, s.toString(), want);
    }

    /** finds() 0 to 2 of a word. */
    private static void finds(BlindPages x, String word, String want) {
        Check.text(x, word);
        Check.due(word + " finds", x.finds(0) + " " + x.finds(1) + " " + x.finds(2), want);
    }

    /** abc, abd, b: a fork at bit 6 (a, b), to its left one at bit 21 (c, d). */
    private static void onePage() {
        BlindPages x = new BlindPages();
        Check.does(x, "+abd;+b;+abc;");
        looks(x, "abc", 0, "0 -1 1 1");
        looks(x, "abd", 0, "1 -1 1 2");
        looks(x, "b", 0, "2 -1 1 3");
        // right at 21 to abd; x and b part at 11, above it only the fork at 21: behind both
        looks(x, "axd", 0, "1 11 1 2");
        looks(x, "axc", 0, "0 11 1 2");
        // A and b part at 10: ahead of both
        looks(x, "aAc", 0, "0 10 1 0");
        looks(x, "aAd", 0, "1 10 1 0");
        // behind its last sign all bits are 0
        looks(x, "ab", 0, "0 17 1 0");
        looks(x, "a", 0, "0 9 1 0");
        // no fork above the diff: the tip
        looks(x, "c", 0, "2 7 1 3");
        looks(x, "abe", 0, "1 23 1 2");
        looks(x, "abb", 0, "0 23 1 0");
        // the fork at 6 itself is above bit 1
        looks(x, "0", 0, "0 1 1 0");
        looks(x, "z", 0, "2 3 1 3");
        // pieces beyond the guess's signs count by their numbers
        looks(x, "bbbbbbbb", 0, "2 9 1 3");
        way(x, "axd", 0, "0 0 1 11 1 2");
        finds(x, "axd", "2 0 1");
        finds(x, "abd", "2 1 1");
    }

    /** B a1 ab | abc b. */
    private static void twoLevels() {
        BlindPages x = new BlindPages();
        Check.does(x, "+ab;+b;+abc;+B;+a1;");
        Check.due("pages", Check.words(x), "B,a1,ab abc,b");
        way(x, "abd", 1, "0 0 1 21 1 2");
        way(x, "abd", 0, "2 21 0 21 1 1");
        finds(x, "abd", "4 0 2");
        // ahead of all: to the first entry all the same; A and B part at 6
        way(x, "A", 1, "0 0 0 6 1 0");
        way(x, "A", 0, "1 6 0 6 1 0");
        finds(x, "A", "0 0 2");
        // the head itself: 8 times its signs are known
        way(x, "abc", 1, "0 0 1 -1 1 2");
        way(x, "abc", 0, "2 24 0 -1 1 1");
        finds(x, "abc", "4 1 2");
        finds(x, "zzz", "5 0 2");
    }

    /** Five words of 24 signs that part in the last one: a b c | d e. */
    private static BlindPages ofLongWords() {
        BlindPages x = new BlindPages();
        for (char c = 'a'; c <= 'e'; c++) Check.add(x, A23 + c);
        return x;
    }

    private static void known() {
        BlindPages x = ofLongWords();
        way(x, A23 + "d", 1, "0 0 1 -1 6 2");
        way(x, A23 + "d", 0, "2 192 0 -1 0 1");
        way(x, A23 + "e", 1, "0 0 1 191 6 2");
        way(x, A23 + "e", 0, "2 191 1 -1 1 2");
        way(x, A23 + "b", 1, "0 0 0 190 6 1");
        way(x, A23 + "b", 0, "1 190 1 -1 1 2");
        x = ofLongWords();
        finds(x, A23 + "a", "1 1 6");
        finds(x, A23 + "b", "2 1 7");
        finds(x, A23 + "c", "3 1 7");
        finds(x, A23 + "d", "4 1 6");
        finds(x, A23 + "e", "5 1 7");
        Check.due("greatest cost", x.all(4), 7);
        Check.due("cost of all", x.all(5), 33);
        x = ofLongWords();
        // a prefix: its bits behind the end are 0, so are those of no word here: bit 185 parts
        finds(x, A23, "0 0 7");
        way(x, A23, 0, "1 185 0 185 1 0");
        // aaaa: alike in 32 bits, bit 33 parts; piece 1 is read twice
        way(x, "aaaa", 1, "0 0 0 33 2 0");
        way(x, "aaaa", 0, "1 33 0 33 1 0");
    }

    /** A head of 4 signs that is known whole is not read again, one of 3 is. */
    private static void knownBehindPieces() {
        BlindPages x = new BlindPages();
        Check.does(x, "+aaaa;+bbbb;+cccc;+dddd;+eee;");
        Check.due("pages", Check.words(x), "aaaa,bbbb,cccc dddd,eee");
        way(x, "dddd", 0, "2 32 0 -1 0 1");
        finds(x, "dddd", "4 1 1");
        way(x, "aaaa", 0, "1 32 0 -1 0 1");
        Check.takeOut(x, "dddd");
        Check.due("pages", Check.words(x), "aaaa,bbbb,cccc,eee");
        Check.does(x, "+ddd;");
        Check.due("pages", Check.words(x), "aaaa,bbbb,cccc ddd,eee");
        way(x, "ddd", 0, "2 24 0 -1 1 1");
        finds(x, "ddd", "4 1 2");
        // dddd and ddd are alike in 25 bits
        way(x, "dddd", 0, "2 25 0 25 1 1");
        // eeee goes by ddd at bit 7, then reads eee from piece 0 on
        way(x, "eeee", 0, "2 7 1 25 1 2");
        // dddde: the guess has one piece, the diff is in its second
        Check.does(x, "-ddd;+dddd;");
        looks(x, "dddde", 2, "0 33 2 1");
        way(x, "dddde", 0, "2 33 0 33 1 1");
    }

    private static void wherever() {
        BlindPages x = new BlindPages();
        Check.does(x, "+ab;+b;+abc;+B;+a1;");
        looks(x, "abd", 1, "2 17 1 3");
        looks(x, "abd", 2, "0 21 1 1");
        looks(x, "B", 2, "1 2 1 0");
        looks(x, "z", 0, "1 3 1 2");
        looks(x, "z", 1, "1 3 1 3");
    }

    private static void without() {
        BlindPages x = new BlindPages();
        finds(x, "a", "0 0 0");
        Check.due("begins(0)", x.begins(0), 0);
        Check.due("begins(1)", x.begins(1), 0);
        Check.due("way(0, 0)", x.way(0, 0), BlindPages.BAD);
        Check.due("looks(0, 0)", x.looks(0, 0), BlindPages.BAD);
        Check.due("between(0)", x.between(0), BlindPages.BAD);
        Check.due("refused", Check.refusals(x), "3 0 0");
    }

    private static void refused() {
        BlindPages x = Check.ofSigns("abcde");
        Check.text(x, "a;");
        Check.due("finds", x.finds(0), BlindPages.NO);
        Check.due("way", x.way(1, 5), BlindPages.NO);
        Check.due("looks", x.looks(2, 3), BlindPages.NO);
        Check.due("begins", x.begins(1), BlindPages.NO);
        Check.due("between", x.between(4), BlindPages.NO);
        Check.due("refused", Check.refusals(x), "0 5 0");
        int[][] wrong = {{-1, 0}, {2, 0}, {0, -1}, {0, 6}, {Integer.MIN_VALUE, 0}, {Integer.MAX_VALUE, 0}, {0, Integer.MAX_VALUE}};
        for (int[] a : wrong) Check.due("way(" + a[0] + ", " + a[1] + ")", x.way(a[0], a[1]), BlindPages.BAD);
        int[][] off = {{-1, 0}, {3, 0}, {0, -1}, {0, 4}, {Integer.MIN_VALUE, 0}, {Integer.MAX_VALUE, 0}, {0, Integer.MIN_VALUE}};
        for (int[] a : off) Check.due("looks(" + a[0] + ", " + a[1] + ")", x.looks(a[0], a[1]), BlindPages.BAD);
        for (int what : new int[] {-1, 3, Integer.MAX_VALUE}) Check.due("finds(" + what + ")", x.finds(what), BlindPages.BAD);
        for (int what : new int[] {-1, 2, Integer.MIN_VALUE}) Check.due("begins(" + what + ")", x.begins(what), BlindPages.BAD);
        for (int k : new int[] {-1, 5, Integer.MAX_VALUE}) Check.due("between(" + k + ")", x.between(k), BlindPages.BAD);
        Check.due("BAD is ahead of NO", Check.refusals(x), "23 5 0");
        x.clear();
        Check.due("an empty text is no word", x.finds(1), BlindPages.NO);
        Check.text(x, A23 + "aa");
        Check.due("25 signs are no word", x.finds(1), BlindPages.NO);
    }

    private static void begins(BlindPages x, String word, int with, int ahead) {
        Check.text(x, word);
        Check.due("begins(0) of " + word, x.begins(0), with);
        Check.due("begins(1) of " + word, x.begins(1), ahead);
    }

    private static void begins() {
        BlindPages x = new BlindPages();
        Check.does(x, "+a;+ab;+abc;+abcd;+abd;+ac;+b;+A;+abcdefgh;+abcdefghi;");
        // A a ab abc abcd abcdefgh abcdefghi abd ac b
        begins(x, "a", 8, 1);
        begins(x, "ab", 6, 2);
        begins(x, "abc", 4, 3);
        begins(x, "abcd", 3, 4);
        begins(x, "abcde", 2, 5);
        begins(x, "abcdefgh", 2, 5);
        begins(x, "abcdefghi", 1, 6);
        begins(x, "abcdefghij", 0, 7);
        begins(x, "ab0", 0, 3);
        begins(x, "B", 0, 1);
        begins(x, "A", 1, 0);
        Check.takeOut(x, "b");
        begins(x, "b", 0, 9);
        Check.add(x, "b");
        begins(x, "0", 0, 0);
        begins(x, "z", 0, 10);
    }

    private static void between(BlindPages x, String word, int k, int want) {
        Check.text(x, word);
        Check.due("between " + word + " and " + k, x.between(k), want);
    }

    private static void between() {
        BlindPages x = Check.ofSigns("bdfhj");
        between(x, "f", 2, 1);
        between(x, "f", 0, 3);
        between(x, "f", 4, 3);
        between(x, "f", 1, 2);
        between(x, "f", 3, 2);
        between(x, "b", 4, 5);
        between(x, "j", 0, 5);
        between(x, "e", 2, 1);
        between(x, "e", 1, 1);
        between(x, "e", 0, 2);
        between(x, "e", 4, 3);
        between(x, "a", 0, 1);
        between(x, "a", 4, 5);
        between(x, "z", 4, 1);
        between(x, "z", 0, 5);
    }
}
