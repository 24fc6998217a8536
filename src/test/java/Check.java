/** What the tests share: calls with a text, an index told as a line, and the counting of wrong answers. */
final class Check {
    private static int asked = 0;
    private static int wrong = 0;
    /** The case at hand, told ahead of each wrong answer. */
    private static String at = "";

    private Check() {
    }

    static void begin(String name) {
        at = name + ": ";
    }

    static int asked() {
        return asked;
    }

    static int wrong() {
        return wrong;
    }

    static void due(String call, long got, long want) {
        due(call, Long.toString(got), Long.toString(want));
    }

    static void due(String call, String got, String want) {
        asked++;
        if (!got.equals(want)) {
            wrong++;
            System.out.println(at + call + " answered " + got + ", due is " + want);
        }
    }

    /** THE TEXT becomes s. */
    static void text(BlindPages x, String s) {
        x.clear();
        for (int i = 0; i < s.length(); i++) {
            due("type behind " + s.substring(0, i), x.type(s.charAt(i)), i + 1);
        }
    }

    static int add(BlindPages x, String word) {
        text(x, word);
        return x.add();
    }

    static int takeOut(BlindPages x, String word) {
        text(x, word);
        return x.takeOut();
    }

    static int does(BlindPages x, String orders) {
        text(x, orders);
        return x.does();
    }

    /** A new index to which each sign, a word, was added in turn. */
    static BlindPages ofSigns(String signs) {
        BlindPages x = new BlindPages();
        addSigns(x, signs);
        return x;
    }

    static void addSigns(BlindPages x, String signs) {
        for (int i = 0; i < signs.length(); i += 40) {
            String part = signs.substring(i, Math.min(i + 40, signs.length()));
            due("does of " + part, does(x, orders('+', part)), part.length());
        }
    }

    /** An order for each sign. */
    static String orders(char order, String signs) {
        StringBuilder s = new StringBuilder();
        for (char c : signs.toCharArray()) s.append(order).append(c).append(';');
        return s.toString();
    }

    static String word(BlindPages x, int k) {
        StringBuilder s = new StringBuilder();
        for (int i = 0; x.sign(k, i) != BlindPages.NONE; i++) s.append((char) x.sign(k, i));
        return s.toString();
    }

    /** The words in order, those of each page of level 0 apart: "a,b d,e". */
    static String words(BlindPages x) {
        StringBuilder s = new StringBuilder();
        for (int p = 0; p < x.all(1); p++) {
            if (x.page(p, 0) > 0) continue;
            if (s.length() > 0) s.append(' ');
            for (int i = 0; i < x.page(p, 1); i++) {
                if (i > 0) s.append(',');
                s.append(word(x, x.page(p, 3) + i));
            }
        }
        return s.toString();
    }

    /** How many entries the pages have, level by level down: "2|3 2". */
    static String shape(BlindPages x) {
        StringBuilder s = new StringBuilder();
        for (int p = 0; p < x.all(1); p++) {
            if (p > 0) s.append(x.page(p, 0) == x.page(p - 1, 0) ? ' ' : '|');
            s.append(x.page(p, 1));
        }
        return s.toString();
    }

    static String refusals(BlindPages x) {
        return x.told(0) + " " + x.told(1) + " " + x.told(2);
    }

    /** Tells how it went, and ends the program with 1 if an answer was wrong. */
    static void end() {
        System.out.println(asked + " answers, " + wrong + " wrong");
        if (wrong != 0 || asked == 0) System.exit(1);
    }
}
