import java.math.BigInteger;

/** Promise 22: digest. */
public final class Promise22Test extends Edges {
    private static final BigInteger ALL_LONGS = BigInteger.ONE.shiftLeft(64);

    public static void main(String[] args) {
        runs(Promise22Test.class, args);
    }

    /** h as it would be without an end. */
    private static BigInteger whole(Run run) {
        BigInteger h = BigInteger.valueOf(2243);
        for (long v : run.values()) h = h.multiply(BigInteger.valueOf(31)).add(BigInteger.valueOf(v));
        return h;
    }

    private static void digest(Run run) {
        asked(run, "digest()", whole(run).mod(ALL_LONGS).longValue());
    }

    /** By another program: 2243 and twelve values are 1766727624037717233086, left over by 2 to the 64th. */
    static void promise22_noWords() {
        asked(NEW, "digest()", -4159807038399722050L);
        digest(NEW);
    }

    static void promise22_hWrapsAround() {
        BigInteger most = BigInteger.valueOf(Long.MAX_VALUE);
        for (Run run : new Run[] {NEW, ONE, FIVE, MOST}) {
            Check.due("h is above all longs", whole(run).compareTo(most) > 0 ? 1 : 0, 1);
            digest(run);
        }
    }

    static void promise22_onePage() {
        digest(ONE);
        digest(NEW.words(A24));
        digest(NEW.and("deals(8)").signs("abcdefgh"));
    }

    static void promise22_manyPages() {
        for (int m = 4; m <= 8; m++) digest(MOST.and("deals(" + m + ")"));
        digest(NEW.signs(new StringBuilder(SIGNS_48).reverse().toString()));
    }

    static void promise22_howOftenRefusedCounts() {
        digest(NEW.and("all(7)"));
        digest(NEW.and("back()"));
        digest(NEW.text("a".repeat(120)).and("type(97)"));
        digest(MOST.text("0").and("add()", "takeOut()", "takeOut()", "all(7)", "all(7)", "all(7)"));
        Check.due("another digest", NEW.and("all(7)").ask("digest()") == NEW.ask("digest()") ? 1 : 0, 0);
    }

    static void promise22_bytesOfTheTextCountButNotWhichTheyAre() {
        digest(FIVE.text("abc"));
        Check.due("three others", FIVE.text("xyz").ask("digest()"), FIVE.text("abc").ask("digest()"));
        Check.due("one less", FIVE.text("ab").ask("digest()") == FIVE.text("abc").ask("digest()") ? 1 : 0, 0);
    }

    static void promise22_statesCount() {
        digest(NEW.times(6, "anew()"));
        digest(NEW.times(7, "anew()"));
        Check.due("six and seven", NEW.times(6, "anew()").ask("digest()"), NEW.times(7, "anew()").ask("digest()"));
        Check.due("five and six", NEW.times(5, "anew()").ask("digest()") == NEW.times(6, "anew()").ask("digest()") ? 1 : 0, 0);
    }

    static void promise22_itselfChangesNothing() {
        Check.due("again", FIVE.and("digest()", "digest()").ask("digest()"), FIVE.ask("digest()"));
        Check.due("refused", FIVE.and("digest()").refusals(), "0 0 0");
        Check.due("without words", NEW.and("digest()").refusals(), "0 0 0");
    }

    static void promise22_behindBack() {
        Run run = FIVE.text("q");
        long before = run.ask("digest()");
        Check.due("a state more", run.and("add()").ask("digest()") == before ? 1 : 0, 0);
        Check.due("back", run.and("add()", "back()").ask("digest()"), before);
    }
}
