import java.util.function.ToLongFunction;

/** Each call with numbers from the edges of what is told and of the ints, all with all, against the Model. */
public final class ExtremesTest {
    private static final int LEAST = Integer.MIN_VALUE, MOST = Integer.MAX_VALUE;
    private static final int[] NUMBERS = {LEAST, LEAST + 1, -65536, -257, -256, -129, -128, -3, -2, -1, 0, 1, 2, 3, 4, 5, 6, 7, 8, 9, 15, 16, 22, 23, 24, 25,
        26, 27, 31, 32, 46, 47, 48, 49, 63, 64, 95, 96, 119, 120, 121, 126, 127, 128, 129, 255, 256, 257, 65536, 999999, 1000000, MOST - 1, MOST};
    private static final int[] FEW = {LEAST, -1, 0, 1, 2, 3, 4, 6, 7, 8, 22, 23, 24, 41, 42, MOST};
    private static final int[] LOTS = {LEAST, -1, 0, 1, 8, 9, 24, 25, 26, 27, 999999, 1000000, MOST};
    private static final String[] TEXTS = {"", "m", "zz", "+m;-q;", "aaaaaaaaaaaaaaaaaaaaaaaaa"};

    private BlindPages mine;
    private Model model;
    private int draws;
    private int m;
    private String text;
    private int calls;

    public static void main(String[] args) {
        for (int draws : new int[] {0, 1, 2, 7}) {
            for (String text : TEXTS) new ExtremesTest().questions(draws, 4 + draws % 5, text);
        }
        for (int draws : new int[] {0, 1, 6, 7}) new ExtremesTest().changes(draws);
        Check.end();
    }

    /** So many draws of up to eight words, then THE TEXT. */
    private void make() {
        mine = new BlindPages();
        model = new Model();
        calls = 0;
        both("deals", x -> x.deals(m), y -> y.deals(m));
        for (int i = 0; i < draws; i++) {
            int seed = 100 + i;
            both("draw", x -> x.draw(seed, 8, 24, 26), y -> y.draw(seed, 8, 24, 26));
        }
        for (char c : text.toCharArray()) both("type", x -> x.type(c), y -> y.type(c));
    }

    private void both(String call, ToLongFunction<BlindPages> of, ToLongFunction<Model> due) {
        calls++;
        Check.due(call, of.applyAsLong(mine), due.applyAsLong(model));
    }

    /** A question changes nothing, so many are asked of one object. */
    private void ask(String call, ToLongFunction<BlindPages> of, ToLongFunction<Model> due) {
        if (calls >= 511) make();
        both(call, of, due);
        if (calls == 511) both("digest", BlindPages::digest, Model::digest);
    }

    private void questions(int draws, int m, String text) {
        this.draws = draws;
        this.m = m;
        this.text = text;
        make();
        for (int a : NUMBERS) {
            ask("finds " + a, x -> x.finds(a), y -> y.finds(a));
            ask("begins " + a, x -> x.begins(a), y -> y.begins(a));
            ask("between " + a, x -> x.between(a), y -> y.between(a));
            ask("parts " + a, x -> x.parts(a), y -> y.parts(a));
            ask("all " + a, x -> x.all(a), y -> y.all(a));
            ask("told " + a, x -> x.told(a), y -> y.told(a));
            for (int b : NUMBERS) {
                ask("way " + a + " " + b, x -> x.way(a, b), y -> y.way(a, b));
                ask("looks " + a + " " + b, x -> x.looks(a, b), y -> y.looks(a, b));
                ask("sign " + a + " " + b, x -> x.sign(a, b), y -> y.sign(a, b));
                ask("page " + a + " " + b, x -> x.page(a, b), y -> y.page(a, b));
            }
        }
        for (int a : FEW) {
            for (int b : FEW) for (int c : FEW) ask("fork " + a + " " + b + " " + c, x -> x.fork(a, b, c), y -> y.fork(a, b, c));
        }
    }

    /** A call that may change something has an object of its own. */
    private void change(String call, ToLongFunction<BlindPages> of, ToLongFunction<Model> due) {
        make();
        both(call, of, due);
        both(call + ", digest", BlindPages::digest, Model::digest);
    }

    private void changes(int draws) {
        this.draws = draws;
        m = 4;
        text = "m";
        for (int a : NUMBERS) {
            change("type " + a, x -> x.type(a), y -> y.type(a));
            change("deals " + a, x -> x.deals(a), y -> y.deals(a));
        }
        if (draws > 1) return;
        for (int a : LOTS) {
            for (int b : LOTS) {
                for (int c : LOTS) for (int d : LOTS) change("draw " + a + " " + b + " " + c + " " + d, x -> x.draw(a, b, c, d), y -> y.draw(a, b, c, d));
            }
        }
    }
}
