/** Promises 15 to 19: sign, parts, page, fork, all. */
public final class ContentTest {
    private static final String A24 = "aaaaaaaaaaaaaaaaaaaaaaaa";

    public static void main(String[] args) {
        signs();
        parts();
        pages();
        threeLevels();
        forks();
        chain();
        whole();
        refused();
        Check.end();
    }

    private static void signs() {
        BlindPages x = new BlindPages();
        Check.does(x, "+Zz09aA;+b;");
        Check.add(x, A24);
        Check.due("word 0", Check.word(x, 0), "Zz09aA");
        Check.due("sign(0, 0)", x.sign(0, 0), 'Z');
        Check.due("sign(0, 3)", x.sign(0, 3), '9');
        Check.due("sign(0, 6)", x.sign(0, 6), BlindPages.NONE);
        Check.due("sign(1, 23)", x.sign(1, 23), 'a');
        Check.due("sign(1, 24)", x.sign(1, 24), BlindPages.NONE);
        Check.due("sign(1, most)", x.sign(1, Integer.MAX_VALUE), BlindPages.NONE);
        Check.due("sign(2, 0)", x.sign(2, 0), 'b');
        Check.due("sign(2, 1)", x.sign(2, 1), BlindPages.NONE);
    }

    private static void parts() {
        BlindPages x = new BlindPages();
        Check.does(x, "+0;+1;+A;+a;+aa;+b;");
        // 0 1: bit 7; 1 A: bit 1; A a: bit 2; a aa: bit 9; aa b: bit 6
        int[] want = {7, 1, 2, 9, 6};
        for (int k = 0; k < 5; k++) Check.due("parts(" + k + ")", x.parts(k), want[k]);
        Check.due("parts(5)", x.parts(5), BlindPages.BAD);
        BlindPages y = new BlindPages();
        Check.add(y, A24);
        Check.add(y, A24.substring(1) + "c");
        Check.add(y, A24.substring(1) + "b");
        Check.due("in the last sign", y.parts(0), 190);
        Check.due("in the last bit", y.parts(1), 191);
        Check.due("a prefix is read to its end", Check.add(y, A24.substring(1)), 0);
        Check.due("parts(0)", y.parts(0), 185);
        Check.add(y, A24.substring(16));
        Check.due("parts(0) behind 8 signs", y.parts(0), 65);
    }

    /** page() 0 to 6. */
    private static void page(BlindPages x, int p, String want) {
        StringBuilder s = new StringBuilder();
        for (int what = 0; what <= 6; what++) s.append(what == 0 ? "" : " ").append(x.page(p, what));
        Check.due("page " + p, s.toString(), want);
    }

    private static void pages() {
        BlindPages x = new BlindPages();
        Check.add(x, "abc");
        page(x, 0, "0 1 1 0 -1 0 3");
        Check.does(x, "+ab;+b;+B;+a1;");
        Check.due("pages", Check.words(x), "B,a1,ab abc,b");
        page(x, 0, "1 2 5 0 -1 1 13");
        page(x, 1, "0 3 3 0 0 2 5");
        page(x, 2, "0 2 2 3 0 1 4");
        Check.due("no page more", x.page(3, 0), BlindPages.BAD);
    }

    /** a .. q dealt with 4: two pages of three and two pages, of 4 4 3 3 3 words. */
    private static void threeLevels() {
        BlindPages x = Check.ofSigns("abcdefghijklmnop");
        Check.add(x, "qqqqq");
        x.deals(4);
        Check.due("shape", Check.shape(x), "2|3 2|4 4 3 3 3");
        // words 21 signs; heads of level 0: five signs; heads of level 1: two
        page(x, 0, "2 2 17 0 -1 1 28");
        page(x, 1, "1 3 11 0 0 2 14");
        page(x, 2, "1 2 6 11 0 1 12");
        page(x, 3, "0 4 4 0 1 3 4");
        page(x, 4, "0 4 4 4 1 3 4");
        page(x, 5, "0 3 3 8 1 2 3");
        page(x, 6, "0 3 3 11 2 2 3");
        page(x, 7, "0 3 3 14 2 2 7");
    }

    private static void fork(BlindPages x, int p, int f, String want) {
        Check.due("fork " + f + " of " + p, x.fork(p, f, 0) + " " + x.fork(p, f, 1) + " " + x.fork(p, f, 2) + " " + x.fork(p, f, 3), want);
    }

    /** a b c d e f g h on one page: 5 parts a b c, d .. g; 4 parts h from all. */
    private static void forks() {
        BlindPages x = new BlindPages();
        x.deals(8);
        Check.addSigns(x, "hgfedcba");
        fork(x, 0, 0, "4 7 1 0");
        fork(x, 0, 1, "5 3 4 1");
        fork(x, 0, 2, "6 1 2 2");
        fork(x, 0, 3, "7 1 1 3");
        fork(x, 0, 4, "6 2 2 2");
        fork(x, 0, 5, "7 1 1 3");
        fork(x, 0, 6, "7 1 1 3");
        Check.due("no fork more", x.fork(0, 7, 0), BlindPages.BAD);
        Check.due("longest", x.page(0, 5), 4);
        x.deals(4);
        Check.due("shape", Check.shape(x), "2|4 4");
        // the top's are the heads a, e
        fork(x, 0, 0, "5 1 1 0");
        fork(x, 1, 0, "5 3 1 0");
        fork(x, 1, 1, "6 1 2 1");
        fork(x, 1, 2, "7 1 1 2");
        // e f g h
        fork(x, 2, 0, "4 3 1 0");
        fork(x, 2, 1, "6 1 2 1");
        fork(x, 2, 2, "7 1 1 2");
    }

    /** Each word a prefix of the next: seven forks one behind another. */
    private static void chain() {
        BlindPages x = new BlindPages();
        x.deals(8);
        Check.does(x, "+aaaaa;+aaa;+aaaaaaa;+a;+aaaa;+aaaaaaaa;+aaaaaa;+aa;");
        Check.due("longest", x.page(0, 5), 7);
        for (int f = 0; f < 7; f++) fork(x, 0, f, 8 * f + 9 + " 1 " + (7 - f) + " " + f);
        BlindPages y = Check.ofSigns("a");
        Check.due("no fork on one entry", y.fork(0, 0, 0), BlindPages.BAD);
        Check.due("longest", y.page(0, 5), 0);
    }

    private static void all(BlindPages x, String want) {
        StringBuilder s = new StringBuilder();
        for (int what = 0; what <= 6; what++) s.append(what == 0 ? "" : " ").append(x.all(what));
        Check.due("all", s.toString(), want);
    }

    private static void whole() {
        BlindPages x = new BlindPages();
        all(x, "0 0 0 4 0 0 -1");
        Check.add(x, "abcde");
        all(x, "1 1 1 4 2 2 -1");
        Check.does(x, "+b;+c;+d;");
        all(x, "4 1 1 4 2 5 -1");
        Check.add(x, "a");
        // a abcde b | c d: abcde reads a, then from bit 9 on two pieces; the others one on each page
        Check.due("pages", Check.words(x), "a,abcde,b c,d");
        all(x, "5 3 2 4 3 11 2");
        x.deals(5);
        all(x, "5 1 1 5 2 6 -1");
        BlindPages y = Check.ofSigns("abcdefghijk");
        y.deals(5);
        Check.due("fewest", y.all(6), 3);
        Check.takeOut(y, "a");
        Check.takeOut(y, "b");
        Check.due("fewest", y.all(6), 2);
        // the top's two are no others' number
        BlindPages z = Check.ofSigns("abcdefgh");
        z.deals(4);
        Check.due("not the top's", z.all(6), 4);
    }

    private static void refused() {
        BlindPages x = Check.ofSigns("abcde");
        int least = Integer.MIN_VALUE, most = Integer.MAX_VALUE;
        for (int[] a : new int[][] {{-1, 0}, {5, 0}, {0, -1}, {least, 0}, {most, 0}, {0, least}}) {
            Check.due("sign(" + a[0] + ", " + a[1] + ")", x.sign(a[0], a[1]), BlindPages.BAD);
        }
        for (int k : new int[] {-1, 4, 5, least, most}) Check.due("parts(" + k + ")", x.parts(k), BlindPages.BAD);
        for (int[] a : new int[][] {{-1, 0}, {3, 0}, {0, -1}, {0, 7}, {least, 0}, {most, 0}, {0, least}, {0, most}}) {
            Check.due("page(" + a[0] + ", " + a[1] + ")", x.page(a[0], a[1]), BlindPages.BAD);
        }
        int[][] forks = {{-1, 0, 0}, {3, 0, 0}, {0, -1, 0}, {0, 1, 0}, {1, 2, 0}, {0, 0, -1}, {0, 0, 4},
            {least, 0, 0}, {most, 0, 0}, {0, least, 0}, {0, most, 0}, {0, 0, least}, {0, 0, most}};
        for (int[] a : forks) Check.due("fork(" + a[0] + ", " + a[1] + ", " + a[2] + ")", x.fork(a[0], a[1], a[2]), BlindPages.BAD);
        for (int what : new int[] {-1, 7, least, most}) Check.due("all(" + what + ")", x.all(what), BlindPages.BAD);
        Check.due("refused", Check.refusals(x), "36 0 0");
        BlindPages y = Check.ofSigns("a");
        Check.due("parts(0) of one word", y.parts(0), BlindPages.BAD);
        BlindPages z = new BlindPages();
        Check.due("parts(-1) of none", z.parts(-1), BlindPages.BAD);
        Check.due("parts(0) of none", z.parts(0), BlindPages.BAD);
        Check.due("fork of none", z.fork(0, 0, 0), BlindPages.BAD);
    }
}
