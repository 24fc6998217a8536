/** Promise 6: does; with it THE TEXT as ORDERS and its FAULT. */
public final class Promise06Test extends Edges {
    private static final String FORTY = "ABCDEFGHIJKLMNOPQRSTabcdefghijklmnopqrst";

    public static void main(String[] args) {
        runs(Promise06Test.class, args);
    }

    /** By a FAULT nothing counts: no refusal, no state, nothing done. */
    private static void fault(Run run, String text, int place) {
        asked(run.text(text), "does()", -10 - place);
    }

    static void promise6_FAULT_anEmptyText() {
        fault(NEW, "", 0);
        fault(FIVE, "", 0);
        fault(MOST, "", 0);
    }

    static void promise6_FAULT_endsTooEarly() {
        fault(FIVE, "+", 1);
        fault(FIVE, "-", 1);
        fault(FIVE, "+a", 2);
        fault(FIVE, "-b", 2);
        fault(FIVE, "+a;-", 4);
        fault(FIVE, "+a;-b", 5);
        fault(FIVE, "+" + A24, 25);
    }

    static void promise6_FAULT_endsTooEarlyAt120() {
        String most = Check.orders('+', FORTY);
        fault(NEW, most.substring(0, 119), 119);
        fault(NEW, most.substring(0, 119) + "a", 120);
        fault(NEW, most.substring(0, 119) + "+", 119);
    }

    static void promise6_FAULT_theFirstByteOfAnOrder() {
        for (int c = 0; c <= 127; c++) {
            boolean stands = c == '+' || c == '-';
            Check.due("byte " + c, NEW.text(Character.toString(c)).ask("does()"), stands ? -11 : -10);
            Check.due("byte " + c + " behind an order", NEW.text("+a;" + (char) c).ask("does()"), stands ? -14 : -13);
        }
    }

    static void promise6_FAULT_theFirstSign() {
        for (int c = 0; c <= 127; c++) {
            boolean stands = Character.isLetterOrDigit(c);
            Check.due("byte " + c + " behind +", NEW.text("+" + (char) c).ask("does()"), stands ? -12 : -11);
            Check.due("byte " + c + " behind -", NEW.text("-" + (char) c).ask("does()"), stands ? -12 : -11);
        }
        fault(FIVE, "+;", 1);
        fault(FIVE, "++a;", 1);
        fault(FIVE, "-+b;", 1);
    }

    static void promise6_FAULT_aLaterSign() {
        for (int c = 0; c <= 127; c++) {
            boolean stands = Character.isLetterOrDigit(c);
            Check.due("byte " + c, NEW.text("+a" + (char) c).ask("does()"), stands ? -13 : c == ';' ? 1 : -12);
        }
        fault(FIVE, "+a+b;", 2);
        fault(FIVE, "-b b;", 2);
        fault(FIVE, "-b\0;", 2);
    }

    static void promise6_FAULT_a25thSign() {
        for (int c = 0; c <= 127; c++) {
            Check.due("byte " + c, NEW.text("+" + A24 + (char) c).ask("does()"), c == ';' ? 1 : -35);
        }
        fault(FIVE, "+" + A24 + "a;", 25);
        fault(FIVE, "+" + A24 + "a@", 25);
        fault(FIVE, "-b;-" + A24 + "a;", 28);
    }

    static void promise6_FAULT_theFirstOne() {
        fault(FIVE, "a", 0);
        fault(FIVE, ";;", 0);
        fault(FIVE, "+a;;;", 3);
        fault(FIVE, "+a;b@", 3);
    }

    /** The orders ahead of a fault are not done. */
    static void promise6_FAULT_nothingIsDone() {
        fault(FIVE, "-b;-d;-f;-h;-j;x", 15);
        fault(NEW, "+a;+b;+", 7);
        fault(FIVE.and("add()", "told(9)"), "+a;+a", 5);
    }

    static void promise6_theWordOf1SignAndOf24() {
        leavesAState(NEW.text("+a;"), "does()", 1);
        leavesAState(NEW.text("+" + A24 + ";"), "does()", 1);
        leavesAState(NEW.text("+" + A24 + ";-" + A24 + ";"), "does()", 2);
        Check.due("word", NEW.does("+" + A23 + "z;").words(), A23 + "z");
    }

    static void promise6_40OrdersIn120Bytes() {
        leavesAState(NEW.text(Check.orders('+', FORTY)), "does()", 40);
        Check.due("words", NEW.does(Check.orders('+', FORTY)).words().replace(",", "").replace(" ", ""), FORTY);
        leavesAState(NEW.does(Check.orders('+', FORTY)).text(Check.orders('-', FORTY)), "does()", 40);
    }

    static void promise6_oneThatIsThereIsPassedOver() {
        leavesAState(FIVE.text("+b;"), "does()", 0);
        leavesAState(FIVE.text("+b;+c;+c;+d;"), "does()", 1);
    }

    static void promise6_oneThatIsNotThereIsPassedOver() {
        leavesAState(NEW.text("-b;"), "does()", 0);
        leavesAState(FIVE.text("-c;-b;-b;-bb;"), "does()", 1);
    }

    static void promise6_the49thIsPassedOver() {
        leavesAState(MOST.text("+0;"), "does()", 0);
        leavesAState(MOST.text("+0;-z;+1;+2;"), "does()", 2);
        Run run = MOST.does("+0;-z;+1;+2;");
        Check.due("words", run.words().replace(",", "").replace(" ", ""), "1" + SIGNS_48.substring(0, 47));
        leavesAState(NEW.signs(SIGNS_48.substring(0, 47)).text("+y;+z;+0;"), "does()", 1);
    }

    static void promise6_noRefusalByWhatIsPassedOver() {
        Check.due("refused", MOST.does("+0;+z;-0;").refusals(), "0 0 0");
        Check.due("no words", NEW.does("-a;").refusals(), "0 0 0");
    }

    static void promise6_oneBehindAnother() {
        Check.due("done", NEW.text("+a;-a;+a;-a;+b;").ask("does()"), 5);
        Check.due("words", NEW.does("+a;-a;+a;-a;+b;").words(), "b");
        Check.due("split and joined on the way", NEW.does("+a;+b;+c;+d;+e;-e;").shape(), "4");
    }

    static void promise6_theTextStays() {
        Check.due("bytes", NEW.does("+a;-a;").ask("told(3)"), 6);
        Check.due("again", NEW.does("+a;-a;").ask("does()"), 2);
    }

    static void promise6_oneStateForAllOrders() {
        Check.due("states", NEW.does("+a;+b;+c;").states(), 1);
        Check.due("back", NEW.does("+a;+b;+c;").and("back()").ask("all(0)"), 0);
    }

    static void promise6_the6thStateAndThe7th() {
        Run run = NEW.text("+a;-a;+b;");
        for (int i = 0; i < 8; i++) {
            leavesAState(run, "does()", i == 0 ? 3 : 2);
            run = run.and("does()");
            Check.due("states", run.states(), Math.min(i + 1, 6));
        }
    }
}
