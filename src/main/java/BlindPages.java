/**
 * An index of words on pages: each page has a blind tree over the heads of its entries.
 *
 * The words in capitals (WORD, BIT, PAGE, FORK ..) are the document's terms. No method makes an
 * object: all rows are made with the object and used again.
 */
public final class BlindPages {
    public static final int NONE = -1, BAD = -2, NO = -3, FULL = -4;

    private static final int SIGNS = 24;
    private static final int LONGS = 3;
    private static final int BITS = 192;
    private static final int PIECE_BITS = 32;
    private static final int WORDS = 48;
    /** All but THE TOP have two ENTRIES at least, so there are 24 + 12 + 6 + 3 + 1 at most. */
    private static final int PAGES = 48;
    /** Five can be, for the same reason. */
    private static final int LEVELS = 6;
    private static final int LEAST_M = 4;
    private static final int MOST_M = 8;
    private static final int BYTES = 120;
    private static final int STATES = 6;
    private static final int FAULT = -10;
    private static final int MOST_SEED = 999999;
    private static final int MOST_DRAWN = 8;
    private static final int ALPHABET = 26;

    private final Text text;
    /** The WORD that the call at hand is about. */
    private final Word word;
    private final Index index;
    private final Past past;
    private final Look glance;
    private int bads;
    private int noes;
    private int fulls;

    public BlindPages() {
        text = new Text();
        word = new Word();
        index = new Index();
        past = new Past();
        glance = new Look();
    }

    // ---- texts, words

    public int type(int c) {
        if (c < 0 || c > 127) {
            return refuse(BAD);
        }
        if (text.length >= BYTES) {
            return refuse(FULL);
        }
        text.append(c);
        return text.length;
    }

    public int clear() {
        int had = text.length;
        text.length = 0;
        return had;
    }

    public int add() {
        if (!text.readWord(word)) {
            return refuse(NO);
        }
        index.walk(word);
        if (index.isThere()) {
            return refuse(NO);
        }
        if (index.now.count >= WORDS) {
            return refuse(FULL);
        }
        int ahead = index.rank();
        past.keep(index.now);
        index.insert(word);
        return ahead;
    }

    public int takeOut() {
        if (!text.readWord(word)) {
            return refuse(NO);
        }
        index.walk(word);
        if (!index.isThere()) {
            return refuse(NO);
        }
        past.keep(index.now);
        index.remove();
        return index.now.count;
    }

    public int does() {
        int fault = text.fault();
        if (fault != NONE) {
            return FAULT - fault;
        }
        past.keep(index.now);
        int done = 0;
        int at = 0;
        for (int orders = 0; orders < BYTES && at < text.length; orders++) {
            boolean adds = text.byteAt(at) == '+';
            int end = text.readSigns(at + 1, word);
            if (adds ? index.insertIfNew(word) : index.removeIfThere(word)) {
                done++;
            }
            at = end + 1;
        }
        return done;
    }

    public int draw(int seed, int n, int signs, int letters) {
        if (seed < 0 || seed > MOST_SEED || n < 1 || n > MOST_DRAWN) {
            return refuse(BAD);
        }
        if (signs < 1 || signs > SIGNS || letters < 1 || letters > ALPHABET) {
            return refuse(BAD);
        }
        past.keep(index.now);
        int added = 0;
        long x = seed;
        for (int i = 0; i < n; i++) {
            x = drawWord(x, signs, letters);
            if (index.insertIfNew(word)) {
                added++;
            }
        }
        return added;
    }

    public int deals(int m) {
        if (m < LEAST_M || m > MOST_M) {
            return refuse(BAD);
        }
        past.keep(index.now);
        index.now.deal(m);
        index.settle();
        return index.now.pages;
    }

    public int anew() {
        int had = index.now.count;
        past.keep(index.now);
        index.now.empty();
        index.settle();
        return had;
    }

    // ---- what THE TEXT, a word, finds

    public int finds(int what) {
        if (what < 0 || what > 2) {
            return refuse(BAD);
        }
        if (!text.readWord(word)) {
            return refuse(NO);
        }
        index.walk(word);
        if (what == 0) {
            return index.rank();
        }
        if (what == 1) {
            return index.isThere() ? 1 : 0;
        }
        return index.cost();
    }

    public int way(int l, int what) {
        if (what < 0 || what > 5 || l < 0 || l >= index.now.levels) {
            return refuse(BAD);
        }
        if (!text.readWord(word)) {
            return refuse(NO);
        }
        index.walk(word);
        Look look = index.lookOf(l);
        switch (what) {
            case 0:
                return look.page;
            case 1:
                return look.known;
            case 2:
                return look.guess;
            case 3:
                return look.diff;
            case 4:
                return look.pieces;
            default:
                return look.place;
        }
    }

    public int looks(int p, int what) {
        if (what < 0 || what > 3 || !index.hasPage(p)) {
            return refuse(BAD);
        }
        if (!text.readWord(word)) {
            return refuse(NO);
        }
        index.lookAt(word, p, 0, glance);
        switch (what) {
            case 0:
                return glance.guess;
            case 1:
                return glance.diff;
            case 2:
                return glance.pieces;
            default:
                return glance.place;
        }
    }

    public int begins(int what) {
        if (what < 0 || what > 1) {
            return refuse(BAD);
        }
        if (!text.readWord(word)) {
            return refuse(NO);
        }
        if (what == 0) {
            return index.now.beginning(word);
        }
        return aheadOfWord();
    }

    public int between(int k) {
        if (k < 0 || k >= index.now.count) {
            return refuse(BAD);
        }
        if (!text.readWord(word)) {
            return refuse(NO);
        }
        int ahead = aheadOfWord();
        if (ahead <= k) {
            return k - ahead + 1;
        }
        return index.rank() - k;
    }

    // ---- what there is

    public int sign(int k, int i) {
        if (k < 0 || k >= index.now.count || i < 0) {
            return refuse(BAD);
        }
        Word of = index.now.wordAt(k);
        return i < of.signs ? of.signAt(i) : NONE;
    }

    public int parts(int k) {
        if (k < 0 || k >= index.now.count - 1) {
            return refuse(BAD);
        }
        return index.now.wordAt(k).partingFrom(index.now.wordAt(k + 1));
    }

    public int page(int p, int what) {
        if (what < 0 || what > 6 || !index.hasPage(p)) {
            return refuse(BAD);
        }
        return index.pageFact(p, what);
    }

    public int fork(int p, int f, int what) {
        if (what < 0 || what > 3 || !index.hasPage(p)) {
            return refuse(BAD);
        }
        if (f < 0 || f >= index.now.entriesOf(p) - 1) {
            return refuse(BAD);
        }
        return index.forkFact(p, f, what);
    }

    public int all(int what) {
        if (what < 0 || what > 6) {
            return refuse(BAD);
        }
        return index.wholeFact(what);
    }

    public int back() {
        if (past.kept == 0) {
            return refuse(NO);
        }
        past.restore(index.now);
        index.settle();
        return past.kept;
    }

    public int told(int what) {
        if (what < 0 || what > 4) {
            return refuse(BAD);
        }
        return ownFact(what);
    }

    public long digest() {
        long h = 2243;
        for (int what = 0; what <= 4; what++) {
            h = 31 * h + ownFact(what);
        }
        for (int what = 0; what <= 6; what++) {
            h = 31 * h + index.wholeFact(what);
        }
        h = digestPages(h);
        for (int k = 0; k < index.now.count; k++) {
            Word of = index.now.wordAt(k);
            for (int i = 0; i < of.signs; i++) {
                h = 31 * h + of.signAt(i);
            }
        }
        return h;
    }

    private long digestPages(long start) {
        long h = start;
        for (int p = 0; p < index.now.pages; p++) {
            for (int what = 0; what <= 6; what++) {
                h = 31 * h + index.pageFact(p, what);
            }
            for (int f = 0; f < index.now.entriesOf(p) - 1; f++) {
                for (int what = 0; what <= 2; what++) {
                    h = 31 * h + index.forkFact(p, f, what);
                }
            }
        }
        return h;
    }

    private int refuse(int answer) {
        if (answer == BAD) {
            bads++;
        } else if (answer == NO) {
            noes++;
        } else if (answer == FULL) {
            fulls++;
        }
        return answer;
    }

    private int ownFact(int what) {
        switch (what) {
            case 0:
                return bads;
            case 1:
                return noes;
            case 2:
                return fulls;
            case 3:
                return text.length;
            default:
                return past.kept;
        }
    }

    private int aheadOfWord() {
        index.walk(word);
        return index.isThere() ? index.rank() - 1 : index.rank();
    }

    /** Writes a WORD by lots; answers X as it was DRAWN last. */
    private long drawWord(long start, int signs, int letters) {
        word.empty();
        if (signs < 1 || letters < 1) {
            return start;
        }
        long x = drawn(start);
        int length = (int) (x / 65536 % signs) + 1;
        for (int i = 0; i < length; i++) {
            x = drawn(x);
            word.append('a' + (int) (x / 65536 % letters));
        }
        return x;
    }

    private static long drawn(long x) {
        return (x * 1103515245L + 12345L) % 2147483648L;
    }

    private static boolean isSign(int c) {
        return c >= 'a' && c <= 'z' || c >= 'A' && c <= 'Z' || c >= '0' && c <= '9';
    }

    /** A WORD as 192 BITS, BIT 0 the highest of the first long; 0 behind its last SIGN. */
    private static final class Word {
        final long[] bits = new long[LONGS];
        int signs;

        void empty() {
            for (int i = 0; i < bits.length; i++) {
                bits[i] = 0;
            }
            signs = 0;
        }

        void append(int sign) {
            int at = signs >> 3;
            if (signs < SIGNS && at >= 0 && at < bits.length) {
                bits[at] |= (long) sign << 56 - 8 * (signs & 7);
                signs++;
            }
        }

        void copyFrom(Word other) {
            for (int i = 0; i < bits.length && i < other.bits.length; i++) {
                bits[i] = other.bits[i];
            }
            signs = other.signs;
        }

        int bitAt(int bit) {
            int at = bit >> 6;
            return at >= 0 && at < bits.length ? (int) (bits[at] >>> 63 - (bit & 63)) & 1 : 0;
        }

        int signAt(int i) {
            int at = i >> 3;
            return at >= 0 && at < bits.length ? (int) (bits[at] >>> 56 - 8 * (i & 7)) & 127 : 0;
        }

        /** The first BIT in which the two differ; NONE if they are the same. */
        int partingFrom(Word other) {
            for (int i = 0; i < bits.length && i < other.bits.length; i++) {
                long apart = bits[i] ^ other.bits[i];
                if (apart != 0) {
                    return 64 * i + Long.numberOfLeadingZeros(apart);
                }
            }
            return NONE;
        }

        /** In how many BITS the two are alike from the first one on. */
        int alike(Word other) {
            int parting = partingFrom(other);
            return parting == NONE ? 8 * signs : parting;
        }
    }

    /** THE TEXT. */
    private static final class Text {
        final byte[] bytes = new byte[BYTES];
        int length;

        void append(int c) {
            if (length >= 0 && length < bytes.length) {
                bytes[length] = (byte) c;
                length++;
            }
        }

        int byteAt(int at) {
            return at >= 0 && at < length && at < bytes.length ? bytes[at] : NONE;
        }

        /** Reads SIGNS into the word from a place on; answers the place of the first byte behind. */
        int readSigns(int from, Word word) {
            word.empty();
            int at = from;
            for (int i = 0; i < SIGNS && isSign(byteAt(at)); i++) {
                word.append(byteAt(at));
                at++;
            }
            return at;
        }

        /** Reads THE TEXT as a WORD; whether it is one. */
        boolean readWord(Word word) {
            return readSigns(0, word) == length && length > 0;
        }

        /** The FAULT of THE TEXT as ORDERS; NONE if it has none. */
        int fault() {
            boolean inOrder = false;
            int signs = 0;
            for (int at = 0; at < length; at++) {
                int c = byteAt(at);
                if (!inOrder) {
                    if (c != '+' && c != '-') {
                        return at;
                    }
                    inOrder = true;
                    signs = 0;
                } else if (c == ';' && signs > 0) {
                    inOrder = false;
                } else if (isSign(c) && signs < SIGNS) {
                    signs++;
                } else {
                    return at;
                }
            }
            return inOrder || length == 0 ? length : NONE;
        }
    }

    /** What one can go back to: the WORDS in ORDER, how many ENTRIES each PAGE has, and M. */
    private static final class State {
        final Word[] words = new Word[WORDS];
        final int[] entries = new int[PAGES];
        int count;
        int pages;
        int levels;
        int most = LEAST_M;

        State() {
            for (int k = 0; k < words.length; k++) {
                words[k] = new Word();
            }
        }

        void empty() {
            count = 0;
            pages = 0;
            levels = 0;
            most = LEAST_M;
        }

        void copyFrom(State other) {
            for (int k = 0; k < other.count && k < words.length; k++) {
                words[k].copyFrom(other.wordAt(k));
            }
            for (int p = 0; p < other.pages && p < entries.length; p++) {
                entries[p] = other.entriesOf(p);
            }
            count = other.count;
            pages = other.pages;
            levels = other.levels;
            most = other.most;
        }

        Word wordAt(int k) {
            return words[k >= 0 && k < words.length ? k : 0];
        }

        int entriesOf(int p) {
            return p >= 0 && p < pages && p < entries.length ? entries[p] : 0;
        }

        void setEntries(int p, int n) {
            if (p >= 0 && p < pages && p < entries.length) {
                entries[p] = n;
            }
        }

        void insertWord(int k, Word word) {
            if (k < 0 || k > count || count >= words.length) {
                return;
            }
            Word spare = words[count];
            for (int i = count; i > k; i--) {
                words[i] = words[i - 1];
            }
            spare.copyFrom(word);
            words[k] = spare;
            count++;
        }

        void removeWord(int k) {
            if (k < 0 || k >= count || count > words.length) {
                return;
            }
            Word spare = words[k];
            for (int i = k; i < count - 1; i++) {
                words[i] = words[i + 1];
            }
            words[count - 1] = spare;
            count--;
        }

        void insertPage(int p, int n) {
            if (p < 0 || p > pages || pages >= entries.length) {
                return;
            }
            for (int i = pages; i > p; i--) {
                entries[i] = entries[i - 1];
            }
            entries[p] = n;
            pages++;
        }

        void removePage(int p) {
            if (p < 0 || p >= pages || pages > entries.length) {
                return;
            }
            for (int i = p; i < pages - 1; i++) {
                entries[i] = entries[i + 1];
            }
            pages--;
        }

        /** DEALT with M: LEVEL by LEVEL up, each put ahead of those beneath it. */
        void deal(int m) {
            if (m < 1) {
                return;
            }
            most = m;
            pages = 0;
            levels = 0;
            int left = count;
            for (int l = 0; l < LEVELS && left > 0 && (l == 0 || left > 1); l++) {
                int dealt = (left + m - 1) / m;
                dealLevel(left, dealt);
                levels++;
                left = dealt;
            }
        }

        private void dealLevel(int n, int dealt) {
            if (dealt < 1) {
                return;
            }
            for (int i = 0; i < dealt; i++) {
                insertPage(i, n / dealt + (i < n % dealt ? 1 : 0));
            }
        }

        int beginning(Word word) {
            int found = 0;
            for (int k = 0; k < count; k++) {
                int parting = word.partingFrom(wordAt(k));
                if (parting == NONE || parting >= 8 * word.signs) {
                    found++;
                }
            }
            return found;
        }
    }

    /** The STATES to go back to, in a ring: the oldest one is written over. */
    private static final class Past {
        final State[] states = new State[STATES];
        int next;
        int kept;

        Past() {
            for (int i = 0; i < states.length; i++) {
                states[i] = new State();
            }
        }

        void keep(State now) {
            if (next < 0 || next >= states.length) {
                return;
            }
            states[next].copyFrom(now);
            next = next + 1 < states.length ? next + 1 : 0;
            kept = Math.min(kept + 1, states.length);
        }

        void restore(State now) {
            int last = next > 0 ? next - 1 : states.length - 1;
            if (kept < 1 || last < 0 || last >= states.length) {
                return;
            }
            now.copyFrom(states[last]);
            next = last;
            kept--;
        }
    }

    /** What a WORD found when it LOOKED at a PAGE. */
    private static final class Look {
        int page;
        int known;
        int guess;
        int diff;
        int pieces;
        int place;
    }

    /**
     * The BLIND TREE of one PAGE, a place in it held by the ENTRIES beneath, from .. to.
     *
     * The ENTRIES are in ORDER, so a FORK's BIT is the lowest at which two neighbours part, and it
     * is so at one place only.
     */
    private static final class Tree {
        /** Of each node the BIT in which its HEAD and that of the next one part. */
        final int[] partings = new int[PAGES + WORDS];
        int base;
        int from;
        int to;
        /** FORKS above the place. */
        int above;
        /** Of the FORK at the place its BIT and the last ENTRY to its LEFT. */
        int bit;
        int lastLeft;

        void setParting(int node, int parting) {
            if (node >= 0 && node < partings.length) {
                partings[node] = parting;
            }
        }

        /** Stands at the top of the tree over so many nodes from the first one on. */
        void open(int firstNode, int entries) {
            base = firstNode;
            from = 0;
            to = entries - 1;
            above = 0;
            findFork();
        }

        private void findFork() {
            bit = BITS;
            lastLeft = from;
            for (int i = from; i < to; i++) {
                int node = base + i;
                if (node >= 0 && node < partings.length && partings[node] < bit) {
                    bit = partings[node];
                    lastLeft = i;
                }
            }
        }

        private void step(boolean left) {
            if (left) {
                to = lastLeft;
            } else {
                from = lastLeft + 1;
            }
            above++;
        }

        /** Goes down as the word's BITS tell, to the first FORK at or above the limit, or to a TIP. */
        void descend(Word word, int limit) {
            for (int turn = 0; turn < MOST_M && from < to && bit < limit; turn++) {
                step(word.bitAt(bit) == 0);
                findFork();
            }
        }

        /** Goes down to the FORK of this number. */
        void seek(int fork) {
            int ahead = fork;
            for (int turn = 0; turn < MOST_M && from < to && ahead > 0; turn++) {
                int forksLeft = lastLeft - from;
                boolean left = ahead <= forksLeft;
                ahead = left ? ahead - 1 : ahead - 1 - forksLeft;
                step(left);
                findFork();
            }
        }
    }

    /**
     * THE INDEX as it is now, with what is found from its State.
     *
     * Nodes are numbered as PAGES are, and behind these the WORDS in ORDER: so the ENTRIES of a
     * PAGE are nodes one behind another, and those of the next PAGE come right behind them.
     */
    private static final class Index {
        final State now = new State();
        /** Of each node the WORD that is its HEAD. */
        final int[] heads = new int[PAGES + WORDS];
        final int[] firsts = new int[PAGES];
        final int[] levelOf = new int[PAGES];
        final int[] aboveOf = new int[PAGES];
        final Tree tree = new Tree();
        /** By LEVELS, THE WAY of the word that walked last. */
        final Look[] steps = new Look[LEVELS];

        Index() {
            for (int l = 0; l < steps.length; l++) {
                steps[l] = new Look();
            }
        }

        boolean hasPage(int p) {
            return p >= 0 && p < now.pages;
        }

        private int firstOf(int p) {
            return p >= 0 && p < firsts.length ? firsts[p] : 0;
        }

        private int levelAt(int p) {
            return p >= 0 && p < levelOf.length ? levelOf[p] : 0;
        }

        private int headOf(int node) {
            return node >= 0 && node < heads.length ? heads[node] : 0;
        }

        private Word headWord(int node) {
            return now.wordAt(headOf(node));
        }

        Look lookOf(int l) {
            return steps[l >= 0 && l < steps.length ? l : 0];
        }

        /** Finds anew all that depends on the State; due behind each change of it. */
        void settle() {
            settleEntries();
            settleHeads();
            int last = now.pages + now.count - 1;
            for (int node = 1; node < last; node++) {
                tree.setParting(node, headWord(node).partingFrom(headWord(node + 1)));
            }
        }

        private void settleEntries() {
            int node = 1;
            aboveOf[0] = NONE;
            for (int p = 0; p < now.pages && p < firsts.length; p++) {
                firsts[p] = node;
                int end = node + now.entriesOf(p);
                for (; node < end; node++) {
                    if (node < now.pages && node > 0 && node < aboveOf.length) {
                        aboveOf[node] = p;
                    }
                }
            }
        }

        private void settleHeads() {
            for (int k = 0; k < now.count && now.pages + k < heads.length; k++) {
                heads[now.pages + k] = k;
            }
            for (int p = Math.min(now.pages, PAGES) - 1; p >= 0; p--) {
                int first = firstOf(p);
                heads[p] = headOf(first);
                levelOf[p] = first < now.pages ? levelAt(first) + 1 : 0;
            }
        }

        /** The word LOOKS at a PAGE. */
        void lookAt(Word word, int p, int known, Look look) {
            int first = firstOf(p);
            tree.open(first, now.entriesOf(p));
            tree.descend(word, BITS);
            Word guessed = headWord(first + tree.from);
            look.page = p;
            look.known = known;
            look.guess = tree.from;
            look.diff = word.partingFrom(guessed);
            int lastBit = look.diff == NONE ? 8 * guessed.signs - 1 : look.diff;
            look.pieces = Math.max(0, lastBit / PIECE_BITS - known / PIECE_BITS + 1);
            if (look.diff == NONE) {
                look.place = look.guess + 1;
                return;
            }
            tree.open(first, now.entriesOf(p));
            tree.descend(word, look.diff);
            look.place = word.bitAt(look.diff) == 0 ? tree.from : tree.to + 1;
        }

        /** The word goes THE WAY down. */
        void walk(Word word) {
            int p = 0;
            int known = 0;
            for (int l = Math.min(now.levels, LEVELS) - 1; l >= 0; l--) {
                Look look = lookOf(l);
                lookAt(word, p, known, look);
                p = firstOf(p) + Math.max(look.place - 1, 0);
                known = word.alike(headWord(p));
            }
        }

        /** Whether the word that walked last is THERE. */
        boolean isThere() {
            return now.pages > 0 && lookOf(0).diff == NONE;
        }

        /** How many WORDS are not behind the word that walked last. */
        int rank() {
            return now.pages > 0 ? headOf(lookOf(0).page) + lookOf(0).place : 0;
        }

        /** COST of the word that walked last. */
        int cost() {
            int pieces = 0;
            for (int l = 0; l < now.levels; l++) {
                pieces += lookOf(l).pieces;
            }
            return pieces;
        }

        boolean insertIfNew(Word word) {
            walk(word);
            if (isThere() || now.count >= WORDS) {
                return false;
            }
            insert(word);
            return true;
        }

        boolean removeIfThere(Word word) {
            walk(word);
            if (!isThere()) {
                return false;
            }
            remove();
            return true;
        }

        /** The word, that walked last and is not THERE, is ADDED. */
        void insert(Word word) {
            now.insertWord(rank(), word);
            if (now.pages == 0) {
                now.insertPage(0, 1);
                now.levels = 1;
            } else {
                growUpwards();
            }
            settle();
        }

        /** An ENTRY more on the PAGE of LEVEL 0; the PAGES ahead of a SPLIT one keep their numbers. */
        private void growUpwards() {
            int levels = now.levels;
            int stay = (now.most + 2) / 2;
            for (int l = 0; l < levels; l++) {
                int p = lookOf(l).page;
                int n = now.entriesOf(p) + 1;
                if (n <= now.most) {
                    now.setEntries(p, n);
                    return;
                }
                now.setEntries(p, stay);
                now.insertPage(p + 1, n - stay);
            }
            now.insertPage(0, 2);
            now.levels++;
        }

        /** The word that walked last, and is THERE, is TAKEN OUT. */
        void remove() {
            now.removeWord(rank() - 1);
            shrinkUpwards();
            dropTops();
            settle();
        }

        /** An ENTRY fewer on the PAGE of LEVEL 0, and above wherever two PAGES were joined. */
        private void shrinkUpwards() {
            boolean fewer = true;
            for (int l = 0; l < now.levels && fewer; l++) {
                int p = lookOf(l).page;
                int n = now.entriesOf(p) - 1;
                now.setEntries(p, n);
                boolean isTop = l == now.levels - 1;
                fewer = !isTop && n < now.most / 2 && joins(p, lookOf(l + 1).page);
            }
        }

        /** Joins a PAGE with its neighbour, or shares out between them; whether it joined. */
        private boolean joins(int p, int above) {
            boolean isLast = p == firstOf(above) + now.entriesOf(above) - 1;
            int one = isLast ? p - 1 : p;
            int both = now.entriesOf(one) + now.entriesOf(one + 1);
            if (both <= now.most) {
                now.setEntries(one, both);
                now.removePage(one + 1);
                return true;
            }
            now.setEntries(one, both - both / 2);
            now.setEntries(one + 1, both / 2);
            return false;
        }

        private void dropTops() {
            for (int l = 0; l < LEVELS && now.levels > 1 && now.entriesOf(0) == 1; l++) {
                now.removePage(0);
                now.levels--;
            }
            if (now.count == 0) {
                now.pages = 0;
                now.levels = 0;
            }
        }

        int wholeFact(int what) {
            switch (what) {
                case 0:
                    return now.count;
                case 1:
                    return now.pages;
                case 2:
                    return now.levels;
                case 3:
                    return now.most;
                case 4:
                    return costOfWords(false);
                case 5:
                    return costOfWords(true);
                default:
                    return fewestEntries();
            }
        }

        /** The greatest COST of one of the WORDS, or that of all together. */
        private int costOfWords(boolean together) {
            int answer = 0;
            for (int k = 0; k < now.count; k++) {
                walk(now.wordAt(k));
                answer = together ? answer + cost() : Math.max(answer, cost());
            }
            return answer;
        }

        private int fewestEntries() {
            int fewest = NONE;
            for (int p = 1; p < now.pages; p++) {
                int n = now.entriesOf(p);
                if (fewest == NONE || n < fewest) {
                    fewest = n;
                }
            }
            return fewest;
        }

        int pageFact(int p, int what) {
            switch (what) {
                case 0:
                    return levelAt(p);
                case 1:
                    return now.entriesOf(p);
                case 2:
                    return endOf(p) - headOf(p);
                case 3:
                    return headOf(p);
                case 4:
                    return p >= 0 && p < aboveOf.length ? aboveOf[p] : NONE;
                case 5:
                    return heightOf(p);
                default:
                    return weightOf(p);
            }
        }

        /** How many WORDS are not behind all those beneath a PAGE. */
        private int endOf(int p) {
            boolean hasNext = p + 1 < now.pages && levelAt(p + 1) == levelAt(p);
            return hasNext ? headOf(p + 1) : now.count;
        }

        private int heightOf(int p) {
            int height = 0;
            for (int f = 0; f < now.entriesOf(p) - 1; f++) {
                tree.open(firstOf(p), now.entriesOf(p));
                tree.seek(f);
                height = Math.max(height, tree.above + 1);
            }
            return height;
        }

        /** Each WORD beneath a PAGE weighs once, and once more for each PAGE beneath whose HEAD it is. */
        private int weightOf(int p) {
            int start = headOf(p);
            int end = endOf(p);
            int weight = 0;
            for (int k = start; k < end; k++) {
                weight += now.wordAt(k).signs;
            }
            for (int q = firstOf(p); q < now.pages; q++) {
                if (headOf(q) >= start && headOf(q) < end) {
                    weight += headWord(q).signs;
                }
            }
            return weight;
        }

        int forkFact(int p, int f, int what) {
            tree.open(firstOf(p), now.entriesOf(p));
            tree.seek(f);
            switch (what) {
                case 0:
                    return tree.bit;
                case 1:
                    return tree.lastLeft - tree.from + 1;
                case 2:
                    return tree.to - tree.lastLeft;
                default:
                    return tree.above;
            }
        }
    }
}
