import java.util.Random;

/** Long runs of calls by lots, each answer against that of the Model. */
public final class ModelTest {
    private static final int RUNS = 1000;
    /** The 512th, the last one that is promised, is the digest. */
    private static final int CALLS = 511;
    private static final String CHARS = "abcdefghijklmnopqrstuvwxyzABCDEFGHIJKLMNOPQRSTUVWXYZ0123456789";

    private BlindPages mine;
    private Model model;
    private Random lots;
    private int calls;
    private int letters;
    private int longest;

    private final StringBuilder told = new StringBuilder();
    private boolean wrong;

    public static void main(String[] args) {
        int wrongRuns = 0;
        for (int run = 0; run < RUNS; run++) {
            ModelTest test = new ModelTest();
            test.run(run);
            if (test.wrong) wrongRuns++;
        }
        System.out.println(wrongRuns == 0 ? "all runs are as the model's" : wrongRuns + " runs are not as the model's");
        if (wrongRuns != 0) System.exit(1);
    }

    private void run(int seed) {
        mine = new BlindPages();
        model = new Model();
        lots = new Random(seed);
        letters = 1 + lots.nextInt(seed % 3 == 0 ? 3 : 62);
        longest = 1 + lots.nextInt(24);
        while (calls < CALLS - 1 && !wrong) {
            turn();
        }
        while (calls < CALLS) same("told(3)", mine.told(3), model.told(3));
        same("digest()", mine.digest(), model.digest());
    }

    private void same(String call, long got, long want) {
        calls++;
        told.append(call).append(" = ").append(got).append('\n');
        if (got != want && !wrong) {
            wrong = true;
            System.out.println(told);
            System.out.println("the last one answered " + got + ", due is " + want);
        }
    }

    /** At most a text and a call that takes it. */
    private void turn() {
        int kind = lots.nextInt(100);
        if (kind < 18) {
            int seed = lots.nextInt(1000), n = lots.nextInt(20) == 0 ? lots.nextInt(12) - 1 : 1 + lots.nextInt(8);
            int most = lots.nextInt(20) == 0 ? 25 : longest, of = Math.min(27, letters);
            same("draw(" + seed + ", " + n + ", " + most + ", " + of + ")", mine.draw(seed, n, most, of), model.draw(seed, n, most, of));
        } else if (kind < 30) {
            text(orders());
            same("does()", mine.does(), model.does());
        } else if (kind < 42) {
            word();
            if (lots.nextBoolean()) same("add()", mine.add(), model.add());
            else same("takeOut()", mine.takeOut(), model.takeOut());
        } else if (kind < 44) {
            int m = 3 + lots.nextInt(7);
            same("deals(" + m + ")", mine.deals(m), model.deals(m));
        } else if (kind < 45) {
            if (lots.nextInt(3) == 0) same("anew()", mine.anew(), model.anew());
        } else if (kind < 47) {
            same("back()", mine.back(), model.back());
        } else if (kind < 65) {
            if (lots.nextInt(3) == 0) word();
            asks();
        } else {
            tells();
        }
    }

    private String randomWord() {
        if (lots.nextInt(3) == 0) {
            String w = model.someWord(lots.nextInt(48));
            int cut = lots.nextInt(4);
            if (cut == 0 && w.length() > 1) return w.substring(0, 1 + lots.nextInt(w.length() - 1));
            if (cut == 1 && w.length() < 24) return w + CHARS.charAt(lots.nextInt(letters));
            return w;
        }
        StringBuilder w = new StringBuilder();
        int n = 1 + lots.nextInt(longest);
        for (int i = 0; i < n; i++) w.append(CHARS.charAt(lots.nextInt(letters)));
        return w.toString();
    }

    private void word() {
        String w = randomWord();
        if (lots.nextInt(25) == 0) w += ";";
        if (lots.nextInt(25) == 0) w = w + w;
        if (lots.nextInt(25) == 0) w = "";
        text(w);
    }

    private String orders() {
        StringBuilder s = new StringBuilder();
        int n = 1 + lots.nextInt(5);
        for (int i = 0; i < n; i++) {
            s.append(lots.nextInt(3) == 0 ? '+' : '-').append(lots.nextInt(3) > 0 ? model.someWord(lots.nextInt(48)) : randomWord()).append(';');
        }
        if (lots.nextInt(8) == 0) s.setCharAt(lots.nextInt(s.length()), "+-;a @[`{/:"
            .charAt(lots.nextInt(11)));
        if (lots.nextInt(16) == 0) s.setLength(lots.nextInt(s.length()));
        return s.toString();
    }

    private void text(String s) {
        same("clear()", mine.clear(), model.clear());
        for (char c : s.toCharArray()) {
            if (calls < CALLS - 1) same("type(" + (int) c + ")", mine.type(c), model.type(c));
        }
    }

    /** Mostly in 0 .. most, at times one off it. */
    private int near(int most) {
        return lots.nextInt(most + 3) - 1;
    }

    private void asks() {
        int what = near(5), a = near(4);
        switch (lots.nextInt(5)) {
            case 0: same("finds(" + a + ")", mine.finds(a), model.finds(a)); break;
            case 1: same("way(" + a + ", " + what + ")", mine.way(a, what), model.way(a, what)); break;
            case 2: {
                int p = near(lots.nextInt(24));
                same("looks(" + p + ", " + a + ")", mine.looks(p, a), model.looks(p, a));
                break;
            }
            case 3: same("begins(" + a + ")", mine.begins(a), model.begins(a)); break;
            default: {
                int k = near(lots.nextInt(48));
                same("between(" + k + ")", mine.between(k), model.between(k));
            }
        }
    }

    private void tells() {
        int what = near(6), a = near(lots.nextInt(48));
        switch (lots.nextInt(7)) {
            case 0: same("sign(" + a + ", " + what + ")", mine.sign(a, what), model.sign(a, what)); break;
            case 1: same("parts(" + a + ")", mine.parts(a), model.parts(a)); break;
            case 2: same("page(" + a + ", " + what + ")", mine.page(a, what), model.page(a, what)); break;
            case 3: {
                int f = near(7);
                same("fork(" + a + ", " + f + ", " + what + ")", mine.fork(a, f, what), model.fork(a, f, what));
                break;
            }
            case 4: same("all(" + what + ")", mine.all(what), model.all(what)); break;
            case 5: same("told(" + what + ")", mine.told(what), model.told(what)); break;
            default: if (lots.nextInt(4) == 0) same("digest()", mine.digest(), model.digest());
        }
    }
}
