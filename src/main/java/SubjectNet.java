import java.util.NoSuchElementException;

/**
 * A net of subjects that never runs in rings. The promises that the comments
 * speak of are those of the document DOC.md.
 */
public final class SubjectNet {
    public static final int NONE = -1;

    private static final int TERMS = 24;
    private static final int LABELS = 40;
    private static final int ITEMS = 40;
    private static final int SIGNS = 80;
    private static final int UNDOABLE = 8;
    private static final int KEPT = 2;
    private static final int YEARS = 60;
    private static final int ROW_LENGTH = TERMS * (TERMS - 1) / 2;

    private static final int NOT_SO = -2;
    private static final int RING = -4;
    private static final int TOLD_ALREADY = -100;
    private static final int FULL = -200;
    private static final int NO_TERM = -300;

    private static final int OR = 0;
    private static final int AND = 1;
    private static final int WITHOUT = 2;

    private final Row told;
    private final Text text;
    private final Guide guide;
    private final Acts acts;
    private final Past past;
    private final Net trial;
    private final Net[] kept;
    private final boolean[] filled;
    private Net now;

    public SubjectNet() {
        text = new Text();
        acts = new Acts();
        told = acts.told;
        guide = acts.guide;
        past = new Past();
        trial = new Net();
        kept = new Net[KEPT];
        filled = new boolean[KEPT];
        for (int i = 0; i < KEPT; i++) {
            kept[i] = new Net();
        }
        now = new Net();
    }

    // ---- the text

    public int sign(int v) {
        return text.addFour(v) ? text.size : NONE;
    }

    public boolean end(int n) {
        return text.cut(n);
    }

    // ---- terms, labels, links

    public int term() {
        int name = text.readOneName();
        if (name == 0) {
            return text.wrongSign();
        }
        if (now.ownerOf(name) >= 0) {
            return TOLD_ALREADY;
        }
        if (now.size >= TERMS || now.nameCount >= LABELS) {
            return FULL;
        }
        past.remember(now);
        return settled(now.newTerm(name));
    }

    public int label(int t) {
        int name = text.readOneName();
        if (!now.has(t)) {
            return NO_TERM;
        }
        if (name == 0) {
            return text.wrongSign();
        }
        if (now.ownerOf(name) >= 0) {
            return TOLD_ALREADY;
        }
        if (now.nameCount >= LABELS) {
            return FULL;
        }
        past.remember(now);
        now.addName(name, t);
        return settled(now.namesOf(t));
    }

    public int named() {
        int name = text.readOneName();
        if (name == 0) {
            return text.wrongSign();
        }
        int owner = now.ownerOf(name);
        return owner >= 0 ? owner : TOLD_ALREADY;
    }

    public int labels(int t) {
        if (!now.has(t)) {
            return NONE;
        }
        told.clear();
        for (int i = 0; i < now.nameCount; i++) {
            if (now.owners[i] == t) {
                told.add(now.names[i]);
            }
        }
        return told.size;
    }

    public int links(int x, int y) {
        past.remember(now);
        return settled(acts.link(now, x, y));
    }

    public int unlinks(int x, int y) {
        past.remember(now);
        return settled(acts.unlink(now, x, y));
    }

    public int net() {
        boolean readable = text.readLinks(now);
        text.clear();
        if (!readable) {
            return text.wrongSign();
        }
        past.remember(now);
        int before = now.linkCount();
        int did = 0;
        while (did < text.wordCount && acts.linkOrPass(now, text.words[did])) {
            did++;
        }
        if (now.linkCount() > before) {
            past.commit();
        }
        told.tell(did < text.wordCount ? 1 : 0);
        return did;
    }

    // ---- the order

    public int place(int t) throws NoSuchElementException {
        if (!now.has(t)) {
            throw new NoSuchElementException("no such term");
        }
        return now.placeOf(t);
    }

    public int at(int place) throws NoSuchElementException {
        if (place < 0 || place >= now.size) {
            throw new NoSuchElementException("no such place");
        }
        return now.order[place];
    }

    public int would(int x, int y) {
        trial.copyFrom(now);
        int answer = acts.link(trial, x, y);
        if (answer >= 0) {
            told.clear();
            for (int p = 0; p < trial.size; p++) {
                told.add(trial.order[p]);
            }
        }
        return answer;
    }

    // ---- who is below whom

    public int kin(int t, int what) {
        if (!now.has(t) || what < 0 || what > 3) {
            return NONE;
        }
        int set = kinOf(t, what);
        told.tell(Integer.bitCount(set));
        return set;
    }

    private int kinOf(int t, int what) {
        switch (what) {
            case 0:
                return now.narrower[t];
            case 1:
                return now.broaderOf(t);
            case 2:
                return now.below(t);
            default:
                return now.above(t);
        }
    }

    public int way(int x, int y) {
        if (!now.hasPair(x, y)) {
            return NONE;
        }
        int length = guide.findWay(now, x, y, true);
        if (length == 0) {
            return NOT_SO;
        }
        guide.tellWay(now, x, told);
        return length;
    }

    public int ways(int x, int y) {
        if (!now.hasPair(x, y)) {
            return NONE;
        }
        guide.countWays(now, x);
        long many = guide.many[y];
        if (many == 0) {
            return NOT_SO;
        }
        told.tell(many);
        return guide.longest[y];
    }

    public int between(int x, int y) {
        if (!now.hasPair(x, y)) {
            return NONE;
        }
        int below = now.below(x);
        if (!holds(below, y)) {
            return NOT_SO;
        }
        int set = below & now.above(y);
        told.tell(now.linksAmong(set));
        return set;
    }

    public int meets(int x, int y) {
        if (!now.has(x) || !now.has(y)) {
            return NONE;
        }
        int both = now.above(x) & now.above(y);
        told.tell(both & ~now.withOthersBelow(both));
        return both;
    }

    public int steps(int x, int y) {
        if (!now.has(x) || !now.has(y)) {
            return NONE;
        }
        int reached = 1 << x;
        for (int far = 0; far < TERMS; far++) {
            if (holds(reached, y)) {
                return far;
            }
            reached = now.withNeighbours(reached);
        }
        return NOT_SO;
    }

    public int depth(int t) {
        if (!now.has(t)) {
            return NONE;
        }
        guide.measureUpwards(now);
        told.tell(guide.longest[t]);
        guide.measureDownwards(now);
        return guide.longest[t];
    }

    public int tops() {
        int tops = 0;
        int bottoms = 0;
        for (int p = 0; p < now.size; p++) {
            int t = now.order[p];
            if (now.broaderOf(t) == 0) {
                tops |= 1 << t;
            }
            if (now.narrower[t] == 0) {
                bottoms |= 1 << t;
            }
        }
        told.tell(bottoms);
        told.add(tops & bottoms);
        return tops;
    }

    public int needless() {
        told.clear();
        for (int x = 0; x < TERMS; x++) {
            int set = now.needlessFrom(x);
            for (int y = 0; y < TERMS; y++) {
                if (holds(set, y)) {
                    told.add(100 * x + y);
                }
            }
        }
        return told.size;
    }

    public int chains() {
        guide.measureDownwards(now);
        int most = 0;
        for (int p = 0; p < now.size; p++) {
            most = Math.max(most, guide.longest[now.order[p]] + 1);
        }
        told.tell(most);
        return now.size - guide.matchBelow(now);
    }

    public int apart(int set) {
        if (set < 0 || (set & ~now.all) != 0) {
            return NONE;
        }
        int pairs = 0;
        for (int t = 0; t < TERMS; t++) {
            if (holds(set, t)) {
                pairs += Integer.bitCount(now.below(t) & set) - 1;
            }
        }
        told.tell(pairs);
        return pairs == 0 ? 1 : 0;
    }

    // ---- items

    public int posts(int item, int t) {
        past.remember(now);
        return settled(acts.post(now, item, t));
    }

    public int unposts(int item, int t) {
        past.remember(now);
        return settled(acts.unpost(now, item, t));
    }

    public int search() {
        boolean readable = text.readSearch(now);
        text.clear();
        if (!readable) {
            return text.wrongSign();
        }
        long found = 0;
        for (int i = 0; i < text.wordCount; i++) {
            found = now.searchOn(found, text.words[i]);
        }
        told.clear();
        for (int item = 0; item < ITEMS; item++) {
            if ((found >> item & 1) != 0) {
                told.add(item);
            }
        }
        return told.size;
    }

    public int posted(int item) {
        if (!isItem(item)) {
            return NONE;
        }
        int set = 0;
        for (int t = 0; t < TERMS; t++) {
            if ((now.items[t] >> item & 1) != 0) {
                set |= 1 << t;
            }
        }
        told.tell(now.withOthersBelow(set));
        return set;
    }

    // ---- changes

    public int goes(int t, int heirs) {
        past.remember(now);
        return settled(acts.leave(now, t, heirs));
    }

    public int merges(int x, int y) {
        past.remember(now);
        return settled(acts.merge(now, x, y));
    }

    public int thins() {
        past.remember(now);
        return settled(acts.thin(now));
    }

    public int day() {
        boolean readable = text.readDay();
        text.clear();
        if (!readable) {
            return text.wrongSign();
        }
        past.remember(now);
        int done = 0;
        while (done < text.wordCount && acts.actOf(now, text.words[done]) >= 0) {
            done++;
        }
        if (done > 0) {
            past.commit();
        }
        told.tell(done < text.wordCount ? 1 : 0);
        told.add(now.linkCount());
        return done;
    }

    public int undo() {
        if (past.size == 0) {
            return NONE;
        }
        now = past.back(now);
        return past.size;
    }

    public int years(int seed, int n) {
        if (n < 1 || n > YEARS) {
            return NONE;
        }
        trial.copyFrom(now);
        int r = seed;
        int came = 0;
        int rings = 0;
        for (int i = 0; i < n; i++) {
            r = drawn(r);
            int x = (r >>> 16) % TERMS;
            r = drawn(r);
            int y = (r >>> 16) % TERMS;
            int answer = acts.link(trial, x, y);
            came += answer >= 0 ? 1 : 0;
            rings += answer == RING ? 1 : 0;
        }
        told.tell(rings);
        told.add(now.placesUnlike(trial));
        return came;
    }

    private static int drawn(int r) {
        return r * 1103515245 + 12345;
    }

    public boolean keep(int i) {
        if (i < 0 || i >= KEPT) {
            return false;
        }
        kept[i].copyFrom(now);
        filled[i] = true;
        return true;
    }

    public boolean again(int i) {
        if (i < 0 || i >= KEPT || !filled[i]) {
            return false;
        }
        now.copyFrom(kept[i]);
        past.size = 0;
        return true;
    }

    public int count(int what) {
        switch (what) {
            case 0:
                return now.size;
            case 1:
                return now.all;
            case 2:
                return now.linkCount();
            case 3:
                return now.nameCount;
            case 4:
                return now.postings();
            case 5:
                return past.size;
            case 6:
                return told.size;
            case 7:
                return text.size;
            default:
                return NONE;
        }
    }

    public long row(int i) throws NoSuchElementException {
        if (i < 0 || i >= told.size) {
            throw new NoSuchElementException("no such number");
        }
        return told.numbers[i];
    }

    /** A change that was done (no answer below 0) can be undone from now on. */
    private int settled(int answer) {
        if (answer >= 0) {
            past.commit();
        }
        return answer;
    }

    private static boolean holds(int set, int t) {
        return (set >> t & 1) != 0;
    }

    private static boolean isItem(int item) {
        return item >= 0 && item < ITEMS;
    }

    /** The ROW: the numbers that a call told last. */
    private static final class Row {
        final long[] numbers = new long[ROW_LENGTH];
        int size;

        void clear() {
            size = 0;
        }

        void add(long number) {
            if (size < ROW_LENGTH) {
                numbers[size] = number;
                size++;
            }
        }

        void tell(long only) {
            clear();
            add(only);
        }
    }

    /**
     * THE TEXT and what was read out of it. A text is read whole into words
     * ahead of any act, since a wrong sign at its end must leave all undone.
     */
    private static final class Text {
        final int[] words = new int[SIGNS];
        int wordCount;
        int size;
        private final int[] signs = new int[SIGNS];
        private int next;

        boolean addFour(int v) {
            if (size > SIGNS - 4) {
                return false;
            }
            for (int shift = 24; shift >= 0; shift -= 8) {
                signs[size] = v >>> shift & 255;
                size++;
            }
            return true;
        }

        boolean cut(int n) {
            if (n < 0 || n > size) {
                return false;
            }
            size = n;
            return true;
        }

        void clear() {
            size = 0;
        }

        /** The answer for a text that was not readable: reading stopped at its wrong sign. */
        int wrongSign() {
            return -1 - next;
        }

        /** The number of the one LABEL that the text is, or 0; the text is emptied. */
        int readOneName() {
            start();
            int name = readName();
            boolean whole = next == size;
            clear();
            return whole ? name : 0;
        }

        /** "Any many" are none, too: an empty text is LINKS. */
        boolean readLinks(Net net) {
            start();
            if (size == 0) {
                return true;
            }
            for (int i = 0; i < SIGNS; i++) {
                int x = readTerm(net);
                if (x < 0 || !passes('>')) {
                    return false;
                }
                int y = readTerm(net);
                if (y < 0) {
                    return false;
                }
                addWord(100 * x + y);
                if (next == size) {
                    return true;
                }
                if (!passes(',')) {
                    return false;
                }
            }
            return false;
        }

        boolean readSearch(Net net) {
            start();
            int how = OR;
            for (int i = 0; i < SIGNS; i++) {
                int t = readTerm(net);
                if (t < 0) {
                    return false;
                }
                int star = passes('*') ? 1 : 0;
                addWord(1000 * star + 100 * how + t);
                if (next == size) {
                    return true;
                }
                how = readHow();
                if (how < 0) {
                    return false;
                }
            }
            return false;
        }

        private int readHow() {
            if (passes('+')) {
                return OR;
            }
            if (passes('&')) {
                return AND;
            }
            return passes('-') ? WITHOUT : NONE;
        }

        boolean readDay() {
            start();
            for (int i = 0; i < SIGNS && next < size; i++) {
                int kind = signs[next];
                int digits = digitsBehind(kind);
                if (digits < 0) {
                    return false;
                }
                next++;
                int number = readNumber(digits);
                if (number < 0) {
                    return false;
                }
                addWord(10000 * kind + number);
            }
            return next == size;
        }

        private static int digitsBehind(int kind) {
            switch (kind) {
                case 'l':
                case 'u':
                case 'm':
                case 'p':
                    return 4;
                case 'g':
                    return 3;
                case 't':
                    return 0;
                default:
                    return NONE;
            }
        }

        private int readNumber(int digits) {
            int number = 0;
            for (int i = 0; i < digits; i++) {
                if (next >= size || signs[next] < '0' || signs[next] > '9') {
                    return NONE;
                }
                number = 10 * number + signs[next] - '0';
                next++;
            }
            return number;
        }

        /** The TERM of the LABEL that is next; of a LABEL that none has the first sign is the wrong one. */
        private int readTerm(Net net) {
            int first = next;
            int name = readName();
            if (name == 0) {
                return NONE;
            }
            int t = net.ownerOf(name);
            if (t < 0) {
                next = first;
            }
            return t;
        }

        private int readName() {
            if (!isLetter()) {
                return 0;
            }
            int name = 32 * (signs[next] - 'a' + 1);
            next++;
            if (isLetter()) {
                name += signs[next] - 'a' + 1;
                next++;
            }
            return name;
        }

        private boolean isLetter() {
            return next < size && signs[next] >= 'a' && signs[next] <= 'z';
        }

        private boolean passes(char sign) {
            if (next >= size || signs[next] != sign) {
                return false;
            }
            next++;
            return true;
        }

        private void start() {
            next = 0;
            wordCount = 0;
        }

        private void addWord(int word) {
            if (wordCount < SIGNS) {
                words[wordCount] = word;
                wordCount++;
            }
        }
    }

    /**
     * All that 1. of the document tells of. Each LINK leads from a place of the
     * order to a later one, so that one walk along it finds all below or above.
     */
    private static final class Net {
        final int[] narrower = new int[TERMS];
        final int[] order = new int[TERMS];
        final long[] items = new long[TERMS];
        final int[] names = new int[LABELS];
        final int[] owners = new int[LABELS];
        private final int[] moving = new int[TERMS];
        int all;
        int size;
        int nameCount;

        void copyFrom(Net other) {
            System.arraycopy(other.narrower, 0, narrower, 0, TERMS);
            System.arraycopy(other.order, 0, order, 0, TERMS);
            System.arraycopy(other.items, 0, items, 0, TERMS);
            System.arraycopy(other.names, 0, names, 0, LABELS);
            System.arraycopy(other.owners, 0, owners, 0, LABELS);
            all = other.all;
            size = other.size;
            nameCount = other.nameCount;
        }

        boolean has(int t) {
            return t >= 0 && t < TERMS && holds(all, t);
        }

        boolean hasPair(int x, int y) {
            return has(x) && has(y) && x != y;
        }

        int newTerm(int name) {
            int t = 0;
            while (t < TERMS - 1 && holds(all, t)) {
                t++;
            }
            if (size < TERMS) {
                all |= 1 << t;
                order[size] = t;
                size++;
                addName(name, t);
            }
            return t;
        }

        /** The TERM goes with its LABELS, ITEMS, LINKS and its place. */
        void remove(int t) {
            for (int s = 0; s < TERMS; s++) {
                narrower[s] &= ~(1 << t);
            }
            narrower[t] = 0;
            items[t] = 0;
            all &= ~(1 << t);
            int left = 0;
            for (int p = 0; p < size; p++) {
                if (order[p] != t) {
                    order[left] = order[p];
                    left++;
                }
            }
            size = left;
            for (int i = nameCount - 1; i >= 0; i--) {
                if (owners[i] == t) {
                    removeName(i);
                }
            }
        }

        // -- labels

        int ownerOf(int name) {
            for (int i = 0; i < nameCount; i++) {
                if (names[i] == name) {
                    return owners[i];
                }
            }
            return NONE;
        }

        int namesOf(int t) {
            int many = 0;
            for (int i = 0; i < nameCount; i++) {
                if (owners[i] == t) {
                    many++;
                }
            }
            return many;
        }

        void addName(int name, int t) {
            if (nameCount < LABELS) {
                names[nameCount] = name;
                owners[nameCount] = t;
                nameCount++;
            }
        }

        private void removeName(int i) {
            for (int k = i + 1; k < nameCount; k++) {
                names[k - 1] = names[k];
                owners[k - 1] = owners[k];
            }
            nameCount--;
        }

        /** They go to the end of all, so that they stand behind the heir's own. */
        void handNames(int from, int heir) {
            int i = 0;
            for (int left = nameCount; left > 0; left--) {
                if (owners[i] == from) {
                    int name = names[i];
                    removeName(i);
                    addName(name, heir);
                } else {
                    i++;
                }
            }
        }

        // -- links and their order

        int placeOf(int t) {
            for (int p = 0; p < size; p++) {
                if (order[p] == t) {
                    return p;
                }
            }
            return NONE;
        }

        /** A LINK that closes no RING comes; how many TERMS have another place then. */
        int come(int x, int y) {
            int moved = 0;
            if (placeOf(x) > placeOf(y)) {
                moved = mend(above(x), below(y), placeOf(y), placeOf(x));
            }
            narrower[x] |= 1 << y;
            return moved;
        }

        private int mend(int fore, int hind, int first, int last) {
            int many = gather(fore, first, last, 0);
            many = gather(hind, first, last, many);
            int moved = 0;
            int next = 0;
            for (int p = first; p <= last && next < many; p++) {
                if (((fore | hind) >> order[p] & 1) != 0) {
                    if (order[p] != moving[next]) {
                        moved++;
                    }
                    order[p] = moving[next];
                    next++;
                }
            }
            return moved;
        }

        private int gather(int set, int first, int last, int many) {
            int next = many;
            for (int p = first; p <= last; p++) {
                if ((set >> order[p] & 1) != 0 && next < TERMS) {
                    moving[next] = order[p];
                    next++;
                }
            }
            return next;
        }

        /** The LINKS that are not there come from one TERM to each of a set, by numbers. */
        void comeToAll(int x, int set) {
            for (int y = 0; y < TERMS; y++) {
                if (holds(set & ~narrower[x], y)) {
                    come(x, y);
                }
            }
        }

        int placesUnlike(Net other) {
            int many = 0;
            for (int p = 0; p < size; p++) {
                if (order[p] != other.order[p]) {
                    many++;
                }
            }
            return many;
        }

        int linkCount() {
            return linksAmong(all);
        }

        int linksAmong(int set) {
            int many = 0;
            for (int t = 0; t < TERMS; t++) {
                if (holds(set, t)) {
                    many += Integer.bitCount(narrower[t] & set);
                }
            }
            return many;
        }

        int broaderOf(int t) {
            int set = 0;
            for (int s = 0; s < TERMS; s++) {
                if (holds(narrower[s], t)) {
                    set |= 1 << s;
                }
            }
            return set;
        }

        int below(int t) {
            int set = 1 << t;
            for (int p = 0; p < size; p++) {
                if (holds(set, order[p])) {
                    set |= narrower[order[p]];
                }
            }
            return set;
        }

        int above(int t) {
            int set = 1 << t;
            for (int p = size - 1; p >= 0; p--) {
                if ((narrower[order[p]] & set) != 0) {
                    set |= 1 << order[p];
                }
            }
            return set;
        }

        /** Those of a set that have another one of it below. */
        int withOthersBelow(int set) {
            int found = 0;
            for (int t = 0; t < TERMS; t++) {
                if (holds(set, t) && (below(t) & set & ~(1 << t)) != 0) {
                    found |= 1 << t;
                }
            }
            return found;
        }

        int withNeighbours(int set) {
            int wider = set;
            for (int t = 0; t < TERMS; t++) {
                if (holds(set, t)) {
                    wider |= narrower[t];
                }
                if ((narrower[t] & set) != 0) {
                    wider |= 1 << t;
                }
            }
            return wider;
        }

        /** Those NARROWER ones that lie below another NARROWER one, too. */
        int needlessFrom(int x) {
            int farther = 0;
            for (int z = 0; z < TERMS; z++) {
                if (holds(narrower[x], z)) {
                    farther |= below(z) & ~(1 << z);
                }
            }
            return narrower[x] & farther;
        }

        // -- items

        int postings() {
            int many = 0;
            for (int t = 0; t < TERMS; t++) {
                many += Long.bitCount(items[t]);
            }
            return many;
        }

        /** What a search has found, with one of its words more. */
        long searchOn(long found, int word) {
            long next = itemsOf(word % 100, word / 1000 == 1);
            switch (word / 100 % 10) {
                case AND:
                    return found & next;
                case WITHOUT:
                    return found & ~next;
                default:
                    return found | next;
            }
        }

        private long itemsOf(int t, boolean allBelow) {
            if (!has(t)) {
                return 0;
            }
            long set = items[t];
            int terms = allBelow ? below(t) : 0;
            for (int s = 0; s < TERMS; s++) {
                if (holds(terms, s)) {
                    set |= items[s];
                }
            }
            return set;
        }
    }

    /** Finds ways; what it has found stays in its rows till it is asked again. */
    private static final class Guide {
        final int[] longest = new int[TERMS];
        final long[] many = new long[TERMS];
        private final int[] layers = new int[TERMS];
        private int length;
        private final int[] aheadOf = new int[TERMS];
        private final int[] cameFrom = new int[TERMS];
        private final int[] queue = new int[TERMS];

        /**
         * Of how many TERMS the FIRST WAY is (0: there is none); without the
         * direct LINK if a WAY over others is asked for. Layers grow from the
         * WAY's end, so that it can be told from its start, by the least.
         */
        int findWay(Net net, int x, int y, boolean direct) {
            layers[0] = 1 << y;
            int seen = layers[0];
            length = 0;
            for (int k = 1; k < TERMS && length == 0; k++) {
                int layer = 0;
                for (int t = 0; t < TERMS; t++) {
                    boolean barred = holds(seen, t) || t == x && k == 1 && !direct;
                    if (!barred && (net.narrower[t] & layers[k - 1]) != 0) {
                        layer |= 1 << t;
                    }
                }
                layers[k] = layer;
                seen |= layer;
                if (holds(layer, x)) {
                    length = k + 1;
                }
            }
            return length;
        }

        /** Tells the WAY that findWay() has found from x. */
        void tellWay(Net net, int x, Row row) {
            row.tell(x);
            int t = x;
            for (int k = length - 2; k >= 0; k--) {
                t = leastOf(net.narrower[t] & layers[k]);
                row.add(t);
            }
        }

        private static int leastOf(int set) {
            int t = 0;
            while (t < TERMS - 1 && !holds(set, t)) {
                t++;
            }
            return t;
        }

        /** How many WAYS there are from x to each TERM, and of how many TERMS the longest is. */
        void countWays(Net net, int x) {
            for (int t = 0; t < TERMS; t++) {
                many[t] = t == x ? 1 : 0;
                longest[t] = t == x ? 1 : 0;
            }
            for (int p = 0; p < net.size; p++) {
                int s = net.order[p];
                for (int t = 0; t < TERMS; t++) {
                    if (many[s] > 0 && holds(net.narrower[s], t)) {
                        many[t] += many[s];
                        longest[t] = Math.max(longest[t], longest[s] + 1);
                    }
                }
            }
        }

        /** LINKS on the longest WAY to each TERM. */
        void measureDownwards(Net net) {
            clearLongest();
            for (int p = 0; p < net.size; p++) {
                int s = net.order[p];
                for (int t = 0; t < TERMS; t++) {
                    if (holds(net.narrower[s], t)) {
                        longest[t] = Math.max(longest[t], longest[s] + 1);
                    }
                }
            }
        }

        /** LINKS on the longest WAY from each TERM. */
        void measureUpwards(Net net) {
            clearLongest();
            for (int p = net.size - 1; p >= 0; p--) {
                int s = net.order[p];
                for (int t = 0; t < TERMS; t++) {
                    if (holds(net.narrower[s], t)) {
                        longest[s] = Math.max(longest[s], longest[t] + 1);
                    }
                }
            }
        }

        private void clearLongest() {
            for (int t = 0; t < TERMS; t++) {
                longest[t] = 0;
            }
        }

        /**
         * How many TERMS at most can come straight behind another one in CHAINS.
         * Each TERM that does spares one CHAIN.
         */
        int matchBelow(Net net) {
            for (int t = 0; t < TERMS; t++) {
                aheadOf[t] = NONE;
            }
            int matched = 0;
            for (int p = 0; p < net.size; p++) {
                if (findFollower(net, net.order[p])) {
                    matched++;
                }
            }
            return matched;
        }

        /** Finds one to come behind x; the others may have to change theirs for it. */
        private boolean findFollower(Net net, int x) {
            int seen = 0;
            int waiting = 1;
            queue[0] = x;
            for (int head = 0; head < TERMS && head < waiting; head++) {
                int s = queue[head];
                int open = net.below(s) & ~(1 << s) & ~seen;
                seen |= open;
                for (int t = 0; t < TERMS; t++) {
                    if (!holds(open, t)) {
                        continue;
                    }
                    cameFrom[t] = s;
                    if (aheadOf[t] < 0) {
                        changeFollowers(x, t);
                        return true;
                    }
                    if (waiting < TERMS) {
                        queue[waiting] = aheadOf[t];
                        waiting++;
                    }
                }
            }
            return false;
        }

        private void changeFollowers(int x, int free) {
            int t = free;
            for (int i = 0; i < TERMS && t >= 0; i++) {
                int s = cameFrom[t];
                int former = s == x ? NONE : followerOf(s);
                aheadOf[t] = s;
                t = former;
            }
        }

        private int followerOf(int s) {
            for (int t = 0; t < TERMS; t++) {
                if (aheadOf[t] == s) {
                    return t;
                }
            }
            return NONE;
        }
    }

    /** The changes, each with its answer; one that answers below 0 has changed nothing but the ROW. */
    private static final class Acts {
        final Guide guide = new Guide();
        final Row told = new Row();

        int link(Net net, int x, int y) {
            if (!net.hasPair(x, y)) {
                return NONE;
            }
            if (holds(net.narrower[x], y)) {
                return NOT_SO;
            }
            if (guide.findWay(net, y, x, true) > 0) {
                guide.tellWay(net, y, told);
                return RING;
            }
            return net.come(x, y);
        }

        /** A link told in a text: false if it can't come; one that is there is passed by. */
        boolean linkOrPass(Net net, int word) {
            int answer = link(net, word / 100, word % 100);
            return answer >= 0 || answer == NOT_SO;
        }

        int unlink(Net net, int x, int y) {
            if (!net.hasPair(x, y)) {
                return NONE;
            }
            if (!holds(net.narrower[x], y)) {
                return NOT_SO;
            }
            net.narrower[x] &= ~(1 << y);
            return net.linkCount();
        }

        int post(Net net, int item, int t) {
            if (!net.has(t) || !isItem(item)) {
                return NONE;
            }
            if ((net.items[t] >> item & 1) != 0) {
                return NOT_SO;
            }
            net.items[t] |= 1L << item;
            return Long.bitCount(net.items[t]);
        }

        int unpost(Net net, int item, int t) {
            if (!net.has(t) || !isItem(item)) {
                return NONE;
            }
            if ((net.items[t] >> item & 1) == 0) {
                return NOT_SO;
            }
            net.items[t] &= ~(1L << item);
            return Long.bitCount(net.items[t]);
        }

        int leave(Net net, int t, int heirs) {
            if (!net.has(t) || heirs < 0 || heirs > 1) {
                return NONE;
            }
            int broader = heirs == 1 ? net.broaderOf(t) : 0;
            int narrower = net.narrower[t];
            long items = net.items[t];
            net.remove(t);
            for (int b = 0; b < TERMS; b++) {
                if (holds(broader, b)) {
                    net.items[b] |= items;
                    net.comeToAll(b, narrower);
                }
            }
            return net.size;
        }

        /** No LINK of the merger can close a RING: that would be a WAY over others, which is refused. */
        int merge(Net net, int x, int y) {
            if (!net.hasPair(x, y)) {
                return NONE;
            }
            if (tellsWayOverOthers(net, x, y) || tellsWayOverOthers(net, y, x)) {
                return RING;
            }
            int narrower = net.narrower[y] & ~(1 << x);
            int broader = net.broaderOf(y) & ~(1 << x);
            net.items[x] |= net.items[y];
            net.handNames(y, x);
            net.remove(y);
            net.comeToAll(x, narrower);
            for (int b = 0; b < TERMS; b++) {
                if (holds(broader, b)) {
                    net.comeToAll(b, 1 << x);
                }
            }
            return net.size;
        }

        private boolean tellsWayOverOthers(Net net, int x, int y) {
            if (guide.findWay(net, x, y, false) == 0) {
                return false;
            }
            guide.tellWay(net, x, told);
            return true;
        }

        /** Taking needless LINKS leaves all ways open, so they can go one TERM after another. */
        int thin(Net net) {
            int gone = 0;
            for (int x = 0; x < TERMS; x++) {
                int set = net.needlessFrom(x);
                net.narrower[x] &= ~set;
                gone += Integer.bitCount(set);
            }
            return gone > 0 ? gone : NOT_SO;
        }

        /** One ACT of a day, as the text has told it. */
        int actOf(Net net, int word) {
            int number = word % 10000;
            switch (word / 10000) {
                case 'l':
                    return link(net, number / 100, number % 100);
                case 'u':
                    return unlink(net, number / 100, number % 100);
                case 'm':
                    return merge(net, number / 100, number % 100);
                case 'g':
                    return leave(net, number / 10, number % 10);
                case 'p':
                    return post(net, number / 100, number % 100);
                default:
                    return thin(net);
            }
        }
    }

    /** Nets as they were ahead of the latest changes; the same objects are used again and again. */
    private static final class Past {
        private final Net[] nets;
        private Net spare;
        int size;

        Past() {
            nets = new Net[UNDOABLE];
            for (int i = 0; i < UNDOABLE; i++) {
                nets[i] = new Net();
            }
            spare = new Net();
        }

        /** Notes how it is ahead of a change; it counts only if commit() follows. */
        void remember(Net now) {
            spare.copyFrom(now);
        }

        void commit() {
            if (size == UNDOABLE) {
                forgetFirst();
            }
            Net unused = nets[size];
            nets[size] = spare;
            spare = unused;
            size++;
        }

        private void forgetFirst() {
            Net first = nets[0];
            for (int i = 1; i < UNDOABLE; i++) {
                nets[i - 1] = nets[i];
            }
            nets[UNDOABLE - 1] = first;
            size--;
        }

        /** The latest net that is kept, in exchange for the one that is. */
        Net back(Net now) {
            if (size == 0) {
                return now;
            }
            size--;
            Net latest = nets[size];
            nets[size] = now;
            return latest;
        }
    }
}
