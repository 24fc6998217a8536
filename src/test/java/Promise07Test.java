import java.math.BigInteger;
import java.util.ArrayList;
import java.util.List;
import java.util.TreeSet;

/** Promise 7: draw. */
public final class Promise07Test extends Edges {
    private static final BigInteger TIMES = BigInteger.valueOf(1103515245), AND = BigInteger.valueOf(12345);
    private static final BigInteger BY = BigInteger.valueOf(2147483648L), CUT = BigInteger.valueOf(65536);

    public static void main(String[] args) {
        runs(Promise07Test.class, args);
    }

    private static String draw(int seed, int n, int signs, int letters) {
        return "draw(" + seed + ", " + n + ", " + signs + ", " + letters + ")";
    }

    private static String words(Run run) {
        return run.words().replace(' ', ',');
    }

    /** The words that are drawn, found with numbers that have no end. */
    private static List<String> drawn(int seed, int n, int signs, int letters) {
        List<String> words = new ArrayList<>();
        BigInteger x = BigInteger.valueOf(seed);
        for (int i = 0; i < n; i++) {
            x = x.multiply(TIMES).add(AND).mod(BY);
            int length = x.divide(CUT).mod(BigInteger.valueOf(signs)).intValue() + 1;
            StringBuilder word = new StringBuilder();
            for (int k = 0; k < length; k++) {
                x = x.multiply(TIMES).add(AND).mod(BY);
                word.append((char) ('a' + x.divide(CUT).mod(BigInteger.valueOf(letters)).intValue()));
            }
            words.add(word.toString());
        }
        return words;
    }

    static void promise7_theLeastNumbersAreTaken() {
        leavesAState(FIVE.text("q"), "draw(0, 1, 1, 1)", 1);
        Check.due("words", words(NEW.and("draw(0, 1, 1, 1)")), "a");
    }

    static void promise7_theGreatestNumbersAreTaken() {
        leavesAState(FIVE.text("q"), "draw(999999, 8, 24, 26)", 8);
        Check.due("words", words(NEW.and("draw(999999, 8, 24, 26)")),
            "cwyydsgumoqykgezggdokwbe,eulqr,jrjibjzrjzqbfizz,layqtoruoqctehtn,ohvx,p,sldqbxryovtjtuflu,uvwank");
    }

    static void promise7_seed0() {
        Check.due("added", NEW.ask("draw(0, 8, 24, 26)"), 8);
        Check.due("words", words(NEW.and("draw(0, 8, 24, 26)")), "cippgdwoprsjvgkdkuk,ibfyzchibdtmrkumtuhy,mpm,qatcubyerymsxxsi,"
            + "riixdcbijtqjezabh,robdh,s,zljpccowxybffdeeylugp");
    }

    static void promise7_BAD_seed() {
        badOutside(FIVE, "draw(#, 1, 1, 1)", 0, 999999);
        badOutside(NEW, "draw(#, 8, 24, 26)", 0, 999999);
    }

    static void promise7_BAD_n() {
        badOutside(FIVE, "draw(0, #, 1, 1)", 1, 8);
        badOutside(NEW, "draw(999999, #, 24, 26)", 1, 8);
    }

    static void promise7_BAD_signs() {
        badOutside(FIVE, "draw(0, 1, #, 1)", 1, 24);
        badOutside(NEW, "draw(999999, 8, #, 26)", 1, 24);
    }

    static void promise7_BAD_letters() {
        badOutside(FIVE, "draw(0, 1, 1, #)", 1, 26);
        badOutside(NEW, "draw(999999, 8, 24, #)", 1, 26);
    }

    static void promise7_BAD_allAtOnceIsCountedOnce() {
        refused(FIVE, "draw(-1, 0, 0, 0)", BAD);
        refused(FIVE, "draw(least, most, least, most)", BAD);
    }

    static void promise7_BAD_alsoWith48Words() {
        refused(MOST, "draw(0, 9, 1, 1)", BAD);
        refused(MOST, "draw(1000000, 1, 1, 1)", BAD);
    }

    /** Each product is far above 2147483648 and above all ints. */
    static void promise7_XWrapsAround() {
        for (int seed = 1; seed <= 999999; seed += 9973) {
            TreeSet<String> due = new TreeSet<>(drawn(seed, 8, 24, 26));
            String call = draw(seed, 8, 24, 26);
            Check.due(call, NEW.ask(call), due.size());
            Check.due(call + ", words", words(NEW.and(call)), String.join(",", due));
        }
    }

    static void promise7_signsFrom1To24() {
        for (int signs = 1; signs <= 24; signs++) {
            TreeSet<String> due = new TreeSet<>(drawn(signs, 8, signs, 3));
            Check.due("signs " + signs, words(NEW.and(draw(signs, 8, signs, 3))), String.join(",", due));
        }
        Check.due("24 signs", words(NEW.and("draw(251, 1, 24, 26)")), "nsfurzhnzprupzzbvmekwoez");
    }

    static void promise7_lettersFrom1To26() {
        for (int letters = 1; letters <= 26; letters++) {
            TreeSet<String> due = new TreeSet<>(drawn(letters, 8, 5, letters));
            Check.due("letters " + letters, words(NEW.and(draw(letters, 8, 5, letters))), String.join(",", due));
        }
        Check.due("z", words(NEW.and("draw(26, 1, 1, 26)")), "z");
    }

    static void promise7_nFrom1To8() {
        for (int n = 1; n <= 8; n++) {
            TreeSet<String> due = new TreeSet<>(drawn(n, n, 24, 26));
            Check.due("n " + n, NEW.ask(draw(n, n, 24, 26)), due.size());
            Check.due("n " + n, words(NEW.and(draw(n, n, 24, 26))), String.join(",", due));
        }
    }

    /** s r b h m m i f: the second m is passed over. ba ba b a ab bb b a: so are three. */
    static void promise7_aWordThatIsThereIsPassedOver() {
        leavesAState(NEW.text("q"), "draw(0, 8, 1, 26)", 7);
        Check.due("words", words(NEW.and("draw(0, 8, 1, 26)")), "b,f,h,i,m,r,s");
        leavesAState(NEW, "draw(5, 8, 2, 2)", 5);
        Check.due("words", words(NEW.and("draw(5, 8, 2, 2)")), "a,ab,b,ba,bb");
        leavesAState(NEW.and("draw(5, 8, 2, 2)"), "draw(5, 8, 2, 2)", 0);
    }

    /** s robdh mpm: the lots of mpm are those behind robdh's also if robdh is there. */
    static void promise7_XIsDrawnForAWordPassedOver() {
        Check.due("added", NEW.words("robdh").ask("draw(0, 3, 24, 26)"), 2);
        Check.due("words", words(NEW.words("robdh").and("draw(0, 3, 24, 26)")), "mpm,robdh,s");
    }

    static void promise7_the48thIsAddedThe49thPassedOver() {
        Run run = NEW.signs(SIGNS_48.substring(0, 46)).and("deals(8)");
        leavesAState(run, "draw(0, 8, 24, 26)", 2);
        Run behind = run.and("draw(0, 8, 24, 26)");
        Check.due("words", behind.ask("all(0)"), 48);
        // s is there; robdh and mpm are the 47th and the 48th
        Check.due("robdh", behind.text("robdh").ask("finds(1)"), 1);
        Check.due("mpm", behind.text("mpm").ask("finds(1)"), 1);
        Check.due("ibfyzchibdtmrkumtuhy", behind.text("ibfyzchibdtmrkumtuhy").ask("finds(1)"), 0);
    }

    static void promise7_noFULLWith48Words() {
        leavesAState(MOST, "draw(0, 8, 24, 26)", 0);
        Check.due("refused", MOST.and("draw(0, 8, 24, 26)").refusals(), "0 0 0");
    }

    static void promise7_theTextStays() {
        Check.due("bytes", NEW.text("abc").and("draw(0, 8, 24, 26)").ask("told(3)"), 3);
        Check.due("the text's word", NEW.text("abc").and("draw(0, 8, 24, 26)").ask("add()"), 0);
        Check.due("no text", NEW.and("draw(0, 8, 24, 26)").ask("told(3)"), 0);
    }

    static void promise7_the6thStateAndThe7th() {
        Run run = NEW;
        for (int i = 0; i < 8; i++) {
            leavesAState(run, draw(100 + i, 2, 24, 26), 2);
            run = run.and(draw(100 + i, 2, 24, 26));
            Check.due("states", run.states(), Math.min(i + 1, 6));
        }
    }
}
