import java.util.ArrayList;
import java.util.List;

/**
 * The document written down a second time, as plainly as can be and in another way than the class:
 * PAGES are objects with lists, a BLIND TREE is built of nodes, nothing is kept that can be found.
 */
final class Model {
    private static final int NONE = -1, BAD = -2, NO = -3, FULL = -4;

    private static final class Page {
        final int level;
        final List<String> words = new ArrayList<>();
        final List<Page> pages = new ArrayList<>();

        Page(int level) {
            this.level = level;
        }

        int size() {
            return level == 0 ? words.size() : pages.size();
        }

        String head() {
            return level == 0 ? words.get(0) : pages.get(0).head();
        }

        String headOfEntry(int i) {
            return level == 0 ? words.get(i) : pages.get(i).head();
        }

        Page copy() {
            Page c = new Page(level);
            c.words.addAll(words);
            for (Page p : pages) c.pages.add(p.copy());
            return c;
        }

        void collect(List<String> into) {
            into.addAll(words);
            for (Page p : pages) p.collect(into);
        }

        int weight() {
            int w = 0;
            for (String s : words) w += s.length();
            for (Page p : pages) w += p.weight() + p.head().length();
            return w;
        }

        /** Moves ENTRIES from number i on to the other PAGE's end. */
        void moveFrom(int i, Page other) {
            while (size() > i) {
                if (level == 0) other.words.add(words.remove(i));
                else other.pages.add(pages.remove(i));
            }
        }
    }

    /** A FORK (bit not NONE) or a TIP of a BLIND TREE, over ENTRIES first .. last. */
    private static final class Node {
        int bit = NONE, first, last, above;
        Node left, right;
    }

    private static final class Look {
        int page, known, guess, diff, pieces, place;
    }

    private static final class State {
        final Page top;
        final int m;

        State(Page top, int m) {
            this.top = top == null ? null : top.copy();
            this.m = m;
        }
    }

    private Page top;
    private int m = 4;
    private String text = "";
    private final List<State> states = new ArrayList<>();
    private final int[] refused = new int[3];

    // ---- words and bits

    static int bit(String w, int b) {
        return b / 8 >= w.length() ? 0 : (w.charAt(b / 8) >> 7 - b % 8) & 1;
    }

    static int diff(String v, String w) {
        for (int b = 0; b < 24 * 8; b++) if (bit(v, b) != bit(w, b)) return b;
        return NONE;
    }

    private static boolean isWord(String s) {
        return s.matches("[a-zA-Z0-9]{1,24}");
    }

    // ---- pages

    private List<Page> pages() {
        List<Page> all = new ArrayList<>();
        if (top != null) all.add(top);
        for (int i = 0; i < all.size(); i++) all.addAll(all.get(i).pages);
        return all;
    }

    private List<String> words() {
        List<String> all = new ArrayList<>();
        if (top != null) top.collect(all);
        return all;
    }

    private Page above(Page page) {
        for (Page p : pages()) if (p.pages.contains(page)) return p;
        return null;
    }

    private static Node tree(Page page, int first, int last, int above) {
        Node n = new Node();
        n.first = first;
        n.last = last;
        n.above = above;
        if (first == last) return n;
        for (int b = 0; n.bit == NONE; b++) {
            for (int i = first; i <= last; i++) {
                if (bit(page.headOfEntry(i), b) != bit(page.headOfEntry(first), b)) n.bit = b;
            }
        }
        int mid = first;
        while (bit(page.headOfEntry(mid + 1), n.bit) == 0) mid++;
        n.left = tree(page, first, mid, above + 1);
        n.right = tree(page, mid + 1, last, above + 1);
        return n;
    }

    private static void forks(Node n, List<Node> into) {
        if (n.bit == NONE) return;
        into.add(n);
        forks(n.left, into);
        forks(n.right, into);
    }

    private static List<Node> forks(Page p) {
        List<Node> all = new ArrayList<>();
        forks(tree(p, 0, p.size() - 1, 0), all);
        return all;
    }

    private static int longest(Node n) {
        return n.bit == NONE ? 0 : 1 + Math.max(longest(n.left), longest(n.right));
    }

    // ---- looking

    private Look look(String w, Page page, int known) {
        Look k = new Look();
        k.page = pages().indexOf(page);
        k.known = known;
        List<Node> way = new ArrayList<>();
        Node n = tree(page, 0, page.size() - 1, 0);
        while (n.bit != NONE) {
            way.add(n);
            n = bit(w, n.bit) == 0 ? n.left : n.right;
        }
        k.guess = n.first;
        String g = page.headOfEntry(k.guess);
        k.diff = diff(w, g);
        int lastPiece = k.diff == NONE ? (g.length() - 1) / 4 : k.diff / 32;
        for (int piece = known / 32; piece <= lastPiece; piece++) k.pieces++;
        if (k.diff == NONE) {
            k.place = k.guess + 1;
        } else {
            Node at = n;
            for (int i = way.size() - 1; i >= 0; i--) if (way.get(i).bit > k.diff) at = way.get(i);
            k.place = bit(w, k.diff) == 0 ? at.first : at.last + 1;
        }
        return k;
    }

    /** THE WAY, by LEVELS. */
    private List<Look> wayOf(String w) {
        List<Look> way = new ArrayList<>();
        Page p = top;
        int known = 0;
        while (p != null) {
            Look k = look(w, p, known);
            way.add(0, k);
            Page next = null;
            if (p.level > 0) {
                next = p.pages.get(k.place == 0 ? 0 : k.place - 1);
                known = diff(w, next.head()) == NONE ? 8 * w.length() : diff(w, next.head());
            }
            p = next;
        }
        return way;
    }

    private int cost(String w) {
        int sum = 0;
        for (Look k : wayOf(w)) sum += k.pieces;
        return sum;
    }

    private boolean there(String w) {
        return words().contains(w);
    }

    private int ahead(String w) {
        int n = 0;
        for (String v : words()) {
            int d = diff(v, w);
            if (d != NONE && bit(v, d) == 0) n++;
        }
        return n;
    }

    // ---- changing

    private void put(String w) {
        if (top == null) {
            top = new Page(0);
            top.words.add(w);
            return;
        }
        Look k = wayOf(w).get(0);
        Page p = pages().get(k.page);
        p.words.add(k.place, w);
        while (p.size() == m + 1) {
            Page up = above(p);
            Page other = new Page(p.level);
            p.moveFrom((m + 1 + 1) / 2, other);
            if (up == null) {
                up = new Page(p.level + 1);
                up.pages.add(p);
                top = up;
            }
            up.pages.add(up.pages.indexOf(p) + 1, other);
            p = up;
        }
    }

    private void drop(String w) {
        Page p = pages().get(wayOf(w).get(0).page);
        p.words.remove(w);
        while (p != top && p.size() < m / 2) {
            Page up = above(p);
            int i = up.pages.indexOf(p);
            Page one = i + 1 < up.size() ? p : up.pages.get(i - 1);
            Page two = i + 1 < up.size() ? up.pages.get(i + 1) : p;
            int both = one.size() + two.size();
            Page row = new Page(p.level);
            one.moveFrom(0, row);
            two.moveFrom(0, row);
            if (both <= m) {
                row.moveFrom(0, one);
                up.pages.remove(two);
            } else {
                row.moveFrom((both + 1) / 2, two);
                row.moveFrom(0, one);
            }
            p = up;
        }
        while (top != null && top.level > 0 && top.size() == 1) top = top.pages.get(0);
        if (top.size() == 0) top = null;
    }

    private void deal() {
        List<String> words = words();
        List<Page> row = new ArrayList<>();
        int at = 0;
        for (int n : shares(words.size())) {
            Page p = new Page(0);
            for (int i = 0; i < n; i++) p.words.add(words.get(at++));
            row.add(p);
        }
        while (row.size() > 1) {
            List<Page> next = new ArrayList<>();
            at = 0;
            for (int n : shares(row.size())) {
                Page p = new Page(row.get(0).level + 1);
                for (int i = 0; i < n; i++) p.pages.add(row.get(at++));
                next.add(p);
            }
            row = next;
        }
        top = row.isEmpty() ? null : row.get(0);
    }

    private List<Integer> shares(int n) {
        List<Integer> shares = new ArrayList<>();
        int few = 0;
        while (few * m < n) few++;
        int left = n;
        for (int i = few; i > 0; i--) {
            int share = (left + i - 1) / i;
            shares.add(share);
            left -= share;
        }
        return shares;
    }

    private void keep() {
        states.add(new State(top, m));
        if (states.size() > 6) states.remove(0);
    }

    private int refuse(int why) {
        refused[BAD - why]++;
        return why;
    }

    private static boolean in(int x, int least, int most) {
        return x >= least && x <= most;
    }

    // ---- the face

    int type(int c) {
        if (!in(c, 0, 127)) return refuse(BAD);
        if (text.length() == 120) return refuse(FULL);
        text += (char) c;
        return text.length();
    }

    int clear() {
        int n = text.length();
        text = "";
        return n;
    }

    int add() {
        if (!isWord(text) || there(text)) return refuse(NO);
        if (words().size() == 48) return refuse(FULL);
        keep();
        put(text);
        return words().indexOf(text);
    }

    int takeOut() {
        if (!isWord(text) || !there(text)) return refuse(NO);
        keep();
        drop(text);
        return words().size();
    }

    private static boolean mayBegin(String s) {
        return s.matches("([+-][a-zA-Z0-9]{1,24};)*([+-][a-zA-Z0-9]{0,24})?");
    }

    int does() {
        if (!text.matches("([+-][a-zA-Z0-9]{1,24};)+")) {
            int fault = text.length();
            for (int n = text.length(); n > 0; n--) if (!mayBegin(text.substring(0, n))) fault = n - 1;
            return -10 - fault;
        }
        keep();
        int done = 0;
        for (String order : text.split(";")) {
            String w = order.substring(1);
            if (order.charAt(0) == '+' && !there(w) && words().size() < 48) {
                put(w);
                done++;
            } else if (order.charAt(0) == '-' && there(w)) {
                drop(w);
                done++;
            }
        }
        return done;
    }

    int draw(int seed, int n, int signs, int letters) {
        if (!in(seed, 0, 999999) || !in(n, 1, 8) || !in(signs, 1, 24) || !in(letters, 1, 26)) return refuse(BAD);
        keep();
        java.math.BigInteger x = java.math.BigInteger.valueOf(seed);
        int added = 0;
        for (int i = 0; i < n; i++) {
            x = drawn(x);
            int length = x.intValue() / 65536 % signs + 1;
            StringBuilder w = new StringBuilder();
            while (w.length() < length) {
                x = drawn(x);
                w.append((char) ('a' + x.intValue() / 65536 % letters));
            }
            if (!there(w.toString()) && words().size() < 48) {
                put(w.toString());
                added++;
            }
        }
        return added;
    }

    private static java.math.BigInteger drawn(java.math.BigInteger x) {
        return x.multiply(java.math.BigInteger.valueOf(1103515245)).add(java.math.BigInteger.valueOf(12345))
            .mod(java.math.BigInteger.valueOf(2147483648L));
    }

    int deals(int newM) {
        if (!in(newM, 4, 8)) return refuse(BAD);
        keep();
        m = newM;
        deal();
        return pages().size();
    }

    int anew() {
        int n = words().size();
        keep();
        top = null;
        m = 4;
        return n;
    }

    int finds(int what) {
        if (!in(what, 0, 2)) return refuse(BAD);
        if (!isWord(text)) return refuse(NO);
        if (what == 0) return ahead(text) + (there(text) ? 1 : 0);
        if (what == 1) return there(text) ? 1 : 0;
        return cost(text);
    }

    private int levels() {
        return top == null ? 0 : top.level + 1;
    }

    int way(int l, int what) {
        if (!in(l, 0, levels() - 1) || !in(what, 0, 5)) return refuse(BAD);
        if (!isWord(text)) return refuse(NO);
        Look k = wayOf(text).get(l);
        return new int[] {k.page, k.known, k.guess, k.diff, k.pieces, k.place}[what];
    }

    int looks(int p, int what) {
        if (!in(p, 0, pages().size() - 1) || !in(what, 0, 3)) return refuse(BAD);
        if (!isWord(text)) return refuse(NO);
        Look k = look(text, pages().get(p), 0);
        return new int[] {k.guess, k.diff, k.pieces, k.place}[what];
    }

    int begins(int what) {
        if (!in(what, 0, 1)) return refuse(BAD);
        if (!isWord(text)) return refuse(NO);
        if (what == 1) return ahead(text);
        int n = 0;
        for (String w : words()) if (w.startsWith(text)) n++;
        return n;
    }

    int between(int k) {
        if (!in(k, 0, words().size() - 1)) return refuse(BAD);
        if (!isWord(text)) return refuse(NO);
        int n = 0;
        for (String w : words()) {
            String v = words().get(k);
            boolean inside = ahead(v) <= ahead(w) && before(w, text) || before(text, w) && ahead(w) <= ahead(v);
            if (inside || w.equals(text) || w.equals(v)) n++;
        }
        return n;
    }

    static boolean before(String v, String w) {
        int d = diff(v, w);
        return d != NONE && bit(v, d) == 0;
    }

    int sign(int k, int i) {
        if (!in(k, 0, words().size() - 1) || i < 0) return refuse(BAD);
        String w = words().get(k);
        return i < w.length() ? w.charAt(i) : NONE;
    }

    int parts(int k) {
        if (!in(k, 0, words().size() - 2)) return refuse(BAD);
        return diff(words().get(k), words().get(k + 1));
    }

    int page(int p, int what) {
        if (!in(p, 0, pages().size() - 1) || !in(what, 0, 6)) return refuse(BAD);
        Page page = pages().get(p);
        List<String> beneath = new ArrayList<>();
        page.collect(beneath);
        switch (what) {
            case 0: return page.level;
            case 1: return page.size();
            case 2: return beneath.size();
            case 3: return ahead(page.head());
            case 4: return pages().indexOf(above(page));
            case 5: return longest(tree(page, 0, page.size() - 1, 0));
            default: return page.weight();
        }
    }

    int fork(int p, int f, int what) {
        if (!in(p, 0, pages().size() - 1) || !in(what, 0, 3)) return refuse(BAD);
        List<Node> forks = forks(pages().get(p));
        if (!in(f, 0, forks.size() - 1)) return refuse(BAD);
        Node n = forks.get(f);
        return new int[] {n.bit, n.left.last - n.left.first + 1, n.right.last - n.right.first + 1, n.above}[what];
    }

    int all(int what) {
        if (!in(what, 0, 6)) return refuse(BAD);
        int greatest = 0, sum = 0, fewest = NONE;
        for (String w : words()) {
            greatest = Math.max(greatest, cost(w));
            sum += cost(w);
        }
        for (Page p : pages()) if (p != top && (fewest == NONE || p.size() < fewest)) fewest = p.size();
        return new int[] {words().size(), pages().size(), levels(), m, greatest, sum, fewest}[what];
    }

    int back() {
        if (states.isEmpty()) return refuse(NO);
        State s = states.remove(states.size() - 1);
        top = s.top;
        m = s.m;
        return states.size();
    }

    int told(int what) {
        if (!in(what, 0, 4)) return refuse(BAD);
        return new int[] {refused[0], refused[1], refused[2], text.length(), states.size()}[what];
    }

    long digest() {
        List<Integer> v = new ArrayList<>();
        for (int what = 0; what <= 4; what++) v.add(told(what));
        for (int what = 0; what <= 6; what++) v.add(all(what));
        for (int p = 0; p < pages().size(); p++) {
            for (int what = 0; what <= 6; what++) v.add(page(p, what));
            for (int f = 0; f < forks(pages().get(p)).size(); f++) {
                for (int what = 0; what <= 2; what++) v.add(fork(p, f, what));
            }
        }
        for (String w : words()) for (char c : w.toCharArray()) v.add((int) c);
        long h = 2243;
        for (int x : v) h = 31 * h + x;
        return h;
    }

    /** A WORD of the index, for tests that want one that is THERE; empty if there is none. */
    String someWord(int k) {
        List<String> w = words();
        return w.isEmpty() ? "" : w.get(Math.floorMod(k, w.size()));
    }
}
