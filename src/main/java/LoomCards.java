/**
 * A loom's cards, some of whose holes the mice ate: the threads, the order of the cards, the laws
 * that the cloth must keep, and sheets that tell another cloth. ../shared/DOC.md says what each
 * call answers.
 *
 * Everything that a call needs is made in the constructor and used again, so no call makes an
 * object.
 */
public final class LoomCards {
    private static final int BEYOND = -1000000001;
    private static final int FULL = -1000000002;
    private static final int KIND = -1000000003;
    private static final int NONE = -1000000004;
    private static final int STATE = -1000000005;
    private static final int MISSING = -1000000006;
    private static final int SIZE = -1000000007;
    private static final int FINDINGS = 7;
    private static final int NO_FINDING = 0;

    private static final int HOOKS = 8;
    private static final int HOOK_SETS = 1 << HOOKS;
    private static final int THREADS = 16;
    private static final int MOST_CARDS = 10;
    private static final int MOST_ROWS = 20;
    private static final int MOST_LAWS = 6;
    private static final int MOST_N = 16;
    private static final int MOST_PLACES = 12;
    private static final int MOST_ORDERED = 6;
    private static final int MOST_BYTES = 120;
    private static final int SHEETS = 4;
    private static final int MOST_NUMBERS = 40;

    private static final int NO_HOLE = 0;
    private static final int HOLE = 1;
    private static final int EATEN = 2;

    private static final int KINDS = 6;
    private static final int LAW = 0;
    private static final int EVEN = 1;
    private static final int LONG = 2;
    private static final int STEP = 3;
    private static final int TIGHT = 4;
    private static final int TURN = 5;
    /** For each KIND the one that it is under; LAW is under none. */
    private static final int[] OVER = {-1, LAW, LAW, EVEN, LONG, STEP};

    private final Loom now = new Loom();
    private final Loom kept = new Loom();
    private final Loom draft = new Loom();
    private final Cloth cloth = new Cloth();
    private final Ways found = new Ways();
    private final Orders laid = new Orders();
    private final Text tape = new Text();
    private final Sheet[] sheets = new Sheet[SHEETS];
    private final int[] refused = new int[FINDINGS];
    private boolean isKept = false;

    public LoomCards() {
        for (int s = 0; s < SHEETS; s++) {
            sheets[s] = new Sheet();
        }
    }

    // ---- cards

    public int card(int holes, int eaten) {
        if (!isHookSet(holes) || !isHookSet(eaten) || (holes & eaten) != 0) {
            return refuse(BEYOND);
        }
        if (now.cards >= MOST_CARDS) {
            return refuse(FULL);
        }
        return now.addCard(holes, eaten);
    }

    public int of(int card, int what) {
        if (!now.hasCard(card)) {
            return refuse(BEYOND);
        }
        switch (what) {
            case 0:
                return now.holes[card];
            case 1:
                return now.eaten[card];
            case 2:
                return Integer.bitCount(now.holes[card]);
            case 3:
                return now.timesPicked(card);
            case 4:
                cloth.weave(now);
                return cloth.up[card];
            default:
                return refuse(BEYOND);
        }
    }

    public int punch(int card, int hook, int v) {
        if (!now.hasCard(card) || !isHook(hook) || v < NO_HOLE || v > EATEN) {
            return refuse(BEYOND);
        }
        int had = now.valueAt(card, hook);
        now.put(card, hook, v);
        return had;
    }

    public int at(int card, int hook) {
        if (!now.hasCard(card) || !isHook(hook)) {
            return refuse(BEYOND);
        }
        return now.valueAt(card, hook);
    }

    public int twin(int card) {
        if (!now.hasCard(card)) {
            return refuse(BEYOND);
        }
        for (int other = 0; other < now.cards; other++) {
            if (other != card && now.differences(card, other) == 0) {
                return other;
            }
        }
        return refuse(NONE);
    }

    // ---- threads, the order

    public int tie(int thread, int hook) {
        if (!isThread(thread) || !isHook(hook)) {
            return refuse(BEYOND);
        }
        int was = now.ties[thread];
        now.ties[thread] = hook;
        return was;
    }

    public int tied(int thread) {
        if (!isThread(thread)) {
            return refuse(BEYOND);
        }
        return now.ties[thread];
    }

    public int pick(int card) {
        if (!now.hasCard(card)) {
            return refuse(BEYOND);
        }
        if (now.rows >= MOST_ROWS) {
            return refuse(FULL);
        }
        now.addPick(card);
        return now.rows;
    }

    public int drop() {
        if (now.rows == 0) {
            return refuse(NONE);
        }
        now.rows--;
        return now.picks[now.rows];
    }

    public int woven(int i) {
        if (!now.hasRow(i)) {
            return refuse(BEYOND);
        }
        return now.picks[i];
    }

    public int row(int i) {
        if (!now.hasRow(i)) {
            return refuse(BEYOND);
        }
        cloth.weave(now);
        return cloth.upIn(i);
    }

    // ---- laws

    public int law(int kind, int n) {
        if (!isKind(kind) || !isLimit(n)) {
            return refuse(BEYOND);
        }
        if (now.laws >= MOST_LAWS) {
            return refuse(FULL);
        }
        return now.addLaw(kind, n);
    }

    public int lawOf(int law, int what) {
        if (!now.hasLaw(law)) {
            return refuse(BEYOND);
        }
        switch (what) {
            case 0:
                return now.kinds[law];
            case 1:
                return now.limits[law];
            case 2:
                return now.inForce[law];
            case 3:
                cloth.weave(now);
                return cloth.keeps(now.kinds[law], now.limits[law]) ? 1 : 0;
            default:
                return refuse(BEYOND);
        }
    }

    public int set(int law, int v) {
        if (!now.hasLaw(law) || !isLimit(v)) {
            return refuse(BEYOND);
        }
        int was = now.limits[law];
        now.limits[law] = v;
        return was;
    }

    public int force(int law, boolean is) {
        if (!now.hasLaw(law)) {
            return refuse(BEYOND);
        }
        int becomes = is ? 1 : 0;
        int isNew = now.inForce[law] == becomes ? 0 : 1;
        now.inForce[law] = becomes;
        return isNew;
    }

    public int as(int law, int kind) {
        if (!now.hasLaw(law) || !isKind(kind)) {
            return refuse(BEYOND);
        }
        if (!isOrIsUnder(now.kinds[law], kind)) {
            return refuse(KIND);
        }
        return now.limits[law];
    }

    public int broken() {
        cloth.weave(now);
        int law = cloth.firstBroken(now);
        return law < 0 ? refuse(NONE) : law;
    }

    public int floats(int what) {
        if (what != 0 && what != 1) {
            return refuse(BEYOND);
        }
        cloth.weave(now);
        return what == 0 ? cloth.longestAcross() : cloth.longestDown();
    }

    // ---- eaten places

    public int ways() {
        if (!found.gather(now)) {
            return refuse(SIZE);
        }
        found.search(now, cloth, 0);
        return found.total;
    }

    public int sure(int card, int hook) {
        if (!now.hasCard(card) || !isHook(hook)) {
            return refuse(BEYOND);
        }
        if (now.timesPicked(card) == 0) {
            return refuse(STATE);
        }
        if (!found.gather(now)) {
            return refuse(SIZE);
        }
        found.search(now, cloth, 0);
        if (found.total == 0) {
            return refuse(NONE);
        }
        int place = found.placeOf(card, hook);
        return place < 0 ? now.valueAt(card, hook) : found.inAll(place);
    }

    public int fill(int i) {
        if (i < 0) {
            return refuse(BEYOND);
        }
        if (!found.gather(now)) {
            return refuse(SIZE);
        }
        found.search(now, cloth, i);
        if (i >= found.total) {
            return refuse(NONE);
        }
        found.fillInto(now);
        return found.places;
    }

    public int ask() {
        if (!found.gather(now)) {
            return refuse(SIZE);
        }
        if (found.places == 0) {
            return refuse(NONE);
        }
        found.search(now, cloth, 0);
        int place = found.mostTelling();
        return 10 * found.cards[place] + found.hooks[place];
    }

    // ---- orders

    public int orders(int set) {
        if (!now.hasCards(set)) {
            return refuse(BEYOND);
        }
        if (Integer.bitCount(set) > MOST_ORDERED) {
            return refuse(SIZE);
        }
        laid.search(now, cloth, set, 0);
        return laid.total;
    }

    public int lay(int set, int i) {
        if (!now.hasCards(set) || i < 0) {
            return refuse(BEYOND);
        }
        if (Integer.bitCount(set) > MOST_ORDERED) {
            return refuse(SIZE);
        }
        laid.search(now, cloth, set, i);
        if (i >= laid.total) {
            return refuse(NONE);
        }
        now.takePicks(laid.wantedCards, laid.size);
        return now.rows;
    }

    public int repeat() {
        if (now.rows == 0) {
            return refuse(NONE);
        }
        cloth.weave(now);
        for (int p = 1; p < now.rows; p++) {
            if (cloth.repeatsBy(p)) {
                return p;
            }
        }
        return now.rows;
    }

    public int unlike() {
        cloth.weave(now);
        int unlike = 0;
        for (int i = 0; i < cloth.rows; i++) {
            if (cloth.isNewRow(i)) {
                unlike++;
            }
        }
        return unlike;
    }

    public int tells() {
        int best = HOOK_SETS - 1;
        for (int hooks = 0; hooks < HOOK_SETS; hooks++) {
            if (Integer.bitCount(hooks) < Integer.bitCount(best) && now.isToldApartBy(hooks)) {
                best = hooks;
            }
        }
        return best;
    }

    public int thread(int thread, int what) {
        if (!isThread(thread) || (what != 0 && what != 1)) {
            return refuse(BEYOND);
        }
        cloth.weave(now);
        return what == 0 ? cloth.rowsWithUp(thread) : cloth.changesOf(thread);
    }

    // ---- the text

    public int feed(int bytes, int n) {
        if (n < 1 || n > 4) {
            return refuse(BEYOND);
        }
        if (tape.size + n > MOST_BYTES) {
            return refuse(FULL);
        }
        for (int left = n - 1; left >= 0; left--) {
            tape.addByte((bytes >>> (8 * left)) & 0xff);
        }
        return tape.size;
    }

    public int wipe() {
        int had = tape.size;
        tape.size = 0;
        return had;
    }

    public int loom() {
        // A FAULT may come behind good ITEMS, so they go to a draft that is taken only if all are.
        draft.become(now);
        int answer = tape.readInto(draft);
        if (answer > 0) {
            now.become(draft);
        }
        tape.size = 0;
        return answer;
    }

    // ---- sheets that tell a cloth

    public int sheet(int s, int bits, int n) {
        if (!isSheet(s) || (bits != 0 && bits != 8 && bits != 16 && bits != 64)) {
            return refuse(BEYOND);
        }
        if (n < 0) {
            return refuse(SIZE);
        }
        if (n > MOST_NUMBERS) {
            return refuse(BEYOND);
        }
        sheets[s].begin(bits, bits == 0 ? 0 : n);
        return sheets[s].size;
    }

    public long write(int s, int i, long v) {
        int finding = numberFinding(s, i);
        if (finding != NO_FINDING) {
            return refuse(finding);
        }
        long was = sheets[s].numbers[i];
        sheets[s].put(i, v);
        return was;
    }

    public int copy(int s, int from, int t, int to, int n) {
        if (!isSheet(s) || !isSheet(t)) {
            return refuse(BEYOND);
        }
        Sheet source = sheets[s];
        Sheet target = sheets[t];
        if (source.isMissing() || target.isMissing()) {
            return refuse(MISSING);
        }
        if (source.bits != target.bits) {
            return refuse(KIND);
        }
        if (!source.hasRange(from, n) || !target.hasRange(to, n)) {
            return refuse(BEYOND);
        }
        System.arraycopy(source.numbers, from, target.numbers, to, n);
        return n;
    }

    public int draw(int s) {
        int finding = sheetFinding(s);
        if (finding != NO_FINDING) {
            return refuse(finding);
        }
        cloth.weave(now);
        int drawn = Math.min(cloth.rows, sheets[s].size);
        for (int i = 0; i < drawn; i++) {
            sheets[s].put(i, cloth.upIn(i));
        }
        return drawn;
    }

    public int read(int s) {
        int finding = sheetFinding(s);
        if (finding != NO_FINDING) {
            return refuse(finding);
        }
        cloth.weave(now);
        Sheet told = sheets[s];
        int both = Math.min(cloth.rows, told.size);
        for (int i = 0; i < both; i++) {
            if (told.threadsIn(i) != cloth.upIn(i)) {
                return 1 + i;
            }
        }
        return told.size == cloth.rows ? 0 : 1 + both;
    }

    public int whose(int s, int i) {
        int finding = numberFinding(s, i);
        if (finding != NO_FINDING) {
            return refuse(finding);
        }
        cloth.weave(now);
        int card = cloth.weaverOf(sheets[s].threadsIn(i));
        return card < 0 ? refuse(NONE) : card;
    }

    public int nearest(int s, int i) {
        int finding = numberFinding(s, i);
        if (finding != NO_FINDING) {
            return refuse(finding);
        }
        if (now.cards == 0) {
            return refuse(NONE);
        }
        cloth.weave(now);
        return cloth.nearestTo(sheets[s].threadsIn(i));
    }

    public int crossings(int s) {
        int finding = sheetFinding(s);
        if (finding != NO_FINDING) {
            return refuse(finding);
        }
        if (now.cards == 0) {
            return refuse(NONE);
        }
        cloth.weave(now);
        int far = 0;
        for (int i = 0; i < sheets[s].size; i++) {
            int told = sheets[s].threadsIn(i);
            far += Integer.bitCount(told ^ cloth.up[cloth.nearestTo(told)]);
        }
        return far;
    }

    public int mark(int s) {
        int finding = sheetFinding(s);
        if (finding != NO_FINDING) {
            return refuse(finding);
        }
        if (sheets[s].size != now.rows) {
            return refuse(SIZE);
        }
        cloth.weave(now);
        int differences = 0;
        int mark = 0;
        for (int i = 0; i < cloth.rows; i++) {
            int differing = sheets[s].threadsIn(i) ^ cloth.upIn(i);
            if (differing != 0) {
                differences += Integer.bitCount(differing);
                mark = 100 * i + Integer.numberOfTrailingZeros(differing);
            }
        }
        return differences == 1 ? mark : refuse(NONE);
    }

    public int order(int s) {
        int finding = sheetFinding(s);
        if (finding != NO_FINDING) {
            return refuse(finding);
        }
        cloth.weave(now);
        int most = Math.min(sheets[s].size, MOST_ROWS);
        now.rows = 0;
        for (int i = 0; i < most; i++) {
            int card = cloth.weaverOf(sheets[s].threadsIn(i));
            if (card < 0) {
                break;
            }
            now.addPick(card);
        }
        return now.rows;
    }

    // ---- images

    public int image() {
        kept.become(now);
        isKept = true;
        return 1;
    }

    public int undo() {
        if (!isKept) {
            return refuse(NONE);
        }
        now.become(kept);
        return now.cards;
    }

    public int tear() {
        int was = isKept ? 1 : 0;
        isKept = false;
        return was;
    }

    public int count(int what) {
        switch (what) {
            case 0:
                return now.cards;
            case 1:
                return now.laws;
            case 2:
                return now.rows;
            case 3:
                return now.eatenPlaces();
            case 4:
                return tape.size;
            case 5:
                return now.lawsInForce();
            default:
                return refuse(BEYOND);
        }
    }

    public int status(int which) {
        if (which < -1 || which >= FINDINGS) {
            return refuse(BEYOND);
        }
        if (which >= 0) {
            return refused[which];
        }
        int all = 0;
        for (int finding = 0; finding < FINDINGS; finding++) {
            all += refused[finding];
        }
        return all;
    }

    // ---- what the calls share

    private int refuse(int finding) {
        int which = BEYOND - finding;
        if (which >= 0 && which < FINDINGS) {
            refused[which]++;
        }
        return finding;
    }

    private int sheetFinding(int s) {
        if (!isSheet(s)) {
            return BEYOND;
        }
        return sheets[s].isMissing() ? MISSING : NO_FINDING;
    }

    private int numberFinding(int s, int i) {
        int finding = sheetFinding(s);
        if (finding != NO_FINDING) {
            return finding;
        }
        return i < 0 || i >= sheets[s].size ? BEYOND : NO_FINDING;
    }

    private static boolean isHook(int hook) {
        return hook >= 0 && hook < HOOKS;
    }

    private static boolean isHookSet(int hooks) {
        return hooks >= 0 && hooks < HOOK_SETS;
    }

    private static boolean isThread(int thread) {
        return thread >= 0 && thread < THREADS;
    }

    private static boolean isKind(int kind) {
        return kind >= 0 && kind < KINDS;
    }

    private static boolean isLimit(int n) {
        return n >= 1 && n <= MOST_N;
    }

    private static boolean isSheet(int s) {
        return s >= 0 && s < SHEETS;
    }

    private static boolean isOrIsUnder(int kind, int upper) {
        int at = kind;
        for (int steps = 0; steps < KINDS && isKind(at); steps++) {
            if (at == upper) {
                return true;
            }
            at = OVER[at];
        }
        return false;
    }

    /** All that an image keeps: CARDS, what THREADS are TIED to, THE ORDER, LAWS. */
    private static final class Loom {
        int cards = 0;
        final int[] holes = new int[MOST_CARDS];
        final int[] eaten = new int[MOST_CARDS];
        final int[] ties = new int[THREADS];
        int rows = 0;
        final int[] picks = new int[MOST_ROWS];
        int laws = 0;
        final int[] kinds = new int[MOST_LAWS];
        final int[] limits = new int[MOST_LAWS];
        final int[] inForce = new int[MOST_LAWS];

        Loom() {
            for (int thread = 0; thread < THREADS; thread++) {
                ties[thread] = thread % HOOKS;
            }
        }

        void become(Loom other) {
            cards = other.cards;
            System.arraycopy(other.holes, 0, holes, 0, MOST_CARDS);
            System.arraycopy(other.eaten, 0, eaten, 0, MOST_CARDS);
            System.arraycopy(other.ties, 0, ties, 0, THREADS);
            takePicks(other.picks, other.rows);
            laws = other.laws;
            System.arraycopy(other.kinds, 0, kinds, 0, MOST_LAWS);
            System.arraycopy(other.limits, 0, limits, 0, MOST_LAWS);
            System.arraycopy(other.inForce, 0, inForce, 0, MOST_LAWS);
        }

        void takePicks(int[] others, int n) {
            rows = Math.min(n, Math.min(others.length, MOST_ROWS));
            for (int i = 0; i < rows; i++) {
                picks[i] = others[i];
            }
        }

        boolean hasCard(int card) {
            return card >= 0 && card < cards;
        }

        boolean hasCards(int set) {
            return (set >>> cards) == 0;
        }

        boolean hasRow(int i) {
            return i >= 0 && i < rows;
        }

        boolean hasLaw(int law) {
            return law >= 0 && law < laws;
        }

        /** The caller has looked whether there is room; so in addPick and addLaw. */
        int addCard(int holeSet, int eatenSet) {
            holes[cards] = holeSet;
            eaten[cards] = eatenSet;
            cards++;
            return cards - 1;
        }

        void addPick(int card) {
            picks[rows] = card;
            rows++;
        }

        int addLaw(int kind, int n) {
            kinds[laws] = kind;
            limits[laws] = n;
            inForce[laws] = 1;
            laws++;
            return laws - 1;
        }

        int valueAt(int card, int hook) {
            if (((eaten[card] >> hook) & 1) == 1) {
                return EATEN;
            }
            return (holes[card] >> hook) & 1;
        }

        void put(int card, int hook, int v) {
            int bit = 1 << hook;
            holes[card] = v == HOLE ? holes[card] | bit : holes[card] & ~bit;
            eaten[card] = v == EATEN ? eaten[card] | bit : eaten[card] & ~bit;
        }

        /** The HOOKS at which two CARDS differ. */
        int differences(int card, int other) {
            return (holes[card] ^ holes[other]) | (eaten[card] ^ eaten[other]);
        }

        boolean isToldApartBy(int hookSet) {
            for (int card = 0; card < cards; card++) {
                for (int other = card + 1; other < cards; other++) {
                    int differing = differences(card, other);
                    if (differing != 0 && (differing & hookSet) == 0) {
                        return false;
                    }
                }
            }
            return true;
        }

        int timesPicked(int card) {
            int times = 0;
            for (int i = 0; i < rows; i++) {
                if (picks[i] == card) {
                    times++;
                }
            }
            return times;
        }

        int eatenPlaces() {
            int places = 0;
            for (int card = 0; card < cards; card++) {
                places += Integer.bitCount(eaten[card]);
            }
            return places;
        }

        int lawsInForce() {
            int forced = 0;
            for (int law = 0; law < laws; law++) {
                forced += inForce[law];
            }
            return forced;
        }
    }

    /**
     * What is woven by CARDS in an order. It measures each CARD once, when its HOLES become known,
     * because a search looks at thousands of cloths that differ in a CARD or two, or in the order
     * alone.
     */
    private static final class Cloth {
        private int cards = 0;
        private final int[] holes = new int[MOST_CARDS];
        final int[] up = new int[MOST_CARDS];
        private final int[] upCount = new int[MOST_CARDS];
        private final int[] across = new int[MOST_CARDS];
        private final int[] hookThreads = new int[HOOKS];
        int rows = 0;
        private final int[] picks = new int[MOST_ROWS];
        private final int[] still = new int[MOST_ROWS];

        void weave(Loom loom) {
            for (int hook = 0; hook < HOOKS; hook++) {
                hookThreads[hook] = 0;
            }
            for (int thread = 0; thread < THREADS; thread++) {
                hookThreads[loom.ties[thread]] |= 1 << thread;
            }
            cards = loom.cards;
            for (int card = 0; card < cards; card++) {
                measure(card, loom.holes[card]);
            }
            reorder(loom.picks, loom.rows);
        }

        void reorder(int[] others, int n) {
            rows = Math.min(n, Math.min(others.length, MOST_ROWS));
            for (int i = 0; i < rows; i++) {
                picks[i] = others[i];
            }
        }

        void turnOver(int card, int hook) {
            measure(card, holes[card] ^ (1 << hook));
        }

        private void measure(int card, int holeSet) {
            int threads = 0;
            for (int hook = 0; hook < HOOKS; hook++) {
                if (((holeSet >> hook) & 1) == 1) {
                    threads |= hookThreads[hook];
                }
            }
            holes[card] = holeSet;
            up[card] = threads;
            upCount[card] = Integer.bitCount(threads);
            across[card] = longestIn(threads);
        }

        private static int longestIn(int threads) {
            int alike = ~(threads ^ (threads >> 1)) & ((1 << (THREADS - 1)) - 1);
            int longest = 1;
            while (alike != 0 && longest < THREADS) {
                alike &= alike >> 1;
                longest++;
            }
            return longest;
        }

        int upIn(int i) {
            return up[picks[i]];
        }

        int firstBroken(Loom loom) {
            for (int law = 0; law < loom.laws; law++) {
                if (loom.inForce[law] == 1 && !keeps(loom.kinds[law], loom.limits[law])) {
                    return law;
                }
            }
            return -1;
        }

        boolean keeps(int kind, int n) {
            switch (kind) {
                case LAW:
                    return hasAtMostUp(n);
                case EVEN:
                    return hasAtMostUp(n) && isEven();
                case LONG:
                    return longestAcross() <= n;
                case STEP:
                    return hasAtMostUp(n) && isEven() && isStepping();
                case TIGHT:
                    return longestAcross() <= n && longestDown() <= n;
                case TURN:
                    return isTurning() || (hasAtMostUp(n) && isEven() && isStepping());
                default:
                    return true;
            }
        }

        private boolean hasAtMostUp(int n) {
            for (int i = 0; i < rows; i++) {
                if (upCount[picks[i]] > n) {
                    return false;
                }
            }
            return true;
        }

        private boolean isEven() {
            for (int i = 0; i < rows; i++) {
                if ((upCount[picks[i]] & 1) == 1) {
                    return false;
                }
            }
            return true;
        }

        private boolean isStepping() {
            for (int i = 1; i < rows; i++) {
                int ahead = holes[picks[i - 1]];
                int stepped = ((ahead << 1) | (ahead >> (HOOKS - 1))) & (HOOK_SETS - 1);
                if (holes[picks[i]] != stepped) {
                    return false;
                }
            }
            return true;
        }

        private boolean isTurning() {
            for (int i = 0; i < rows / 2; i++) {
                if (upIn(i) != upIn(rows - 1 - i)) {
                    return false;
                }
            }
            return true;
        }

        int longestAcross() {
            int longest = 0;
            for (int i = 0; i < rows; i++) {
                longest = Math.max(longest, across[picks[i]]);
            }
            return longest;
        }

        /**
         * All THREADS at once: at the length that is tried, still[i] has those that stay as they
         * are from ROW i on.
         */
        int longestDown() {
            int any = 0;
            for (int i = 0; i + 1 < rows; i++) {
                still[i] = ~(upIn(i) ^ upIn(i + 1)) & ((1 << THREADS) - 1);
                any |= still[i];
            }
            int longest = Math.min(rows, 1);
            while (any != 0 && longest < rows) {
                longest++;
                any = 0;
                for (int i = 0; i + longest < rows; i++) {
                    still[i] &= still[i + 1];
                    any |= still[i];
                }
            }
            return longest;
        }

        boolean repeatsBy(int p) {
            for (int i = p; i < rows; i++) {
                if (upIn(i) != upIn(i - p)) {
                    return false;
                }
            }
            return true;
        }

        boolean isNewRow(int i) {
            for (int ahead = 0; ahead < i; ahead++) {
                if (upIn(ahead) == upIn(i)) {
                    return false;
                }
            }
            return true;
        }

        int rowsWithUp(int thread) {
            int times = 0;
            for (int i = 0; i < rows; i++) {
                times += (upIn(i) >> thread) & 1;
            }
            return times;
        }

        int changesOf(int thread) {
            int changes = 0;
            for (int i = 1; i < rows; i++) {
                changes += ((upIn(i) ^ upIn(i - 1)) >> thread) & 1;
            }
            return changes;
        }

        /** The least CARD that weaves these THREADS, or -1. */
        int weaverOf(int threads) {
            for (int card = 0; card < cards; card++) {
                if (up[card] == threads) {
                    return card;
                }
            }
            return -1;
        }

        /** The caller has looked whether there is a CARD. */
        int nearestTo(int threads) {
            int best = 0;
            for (int card = 1; card < cards; card++) {
                if (Integer.bitCount(up[card] ^ threads) < Integer.bitCount(up[best] ^ threads)) {
                    best = card;
                }
            }
            return best;
        }
    }

    /** The WAYS: gather() finds the places, search() counts what the other calls are answered by. */
    private static final class Ways {
        int places = 0;
        final int[] cards = new int[MOST_PLACES];
        final int[] hooks = new int[MOST_PLACES];
        int total = 0;
        private final int[] holeTimes = new int[MOST_PLACES];
        private int wantedWay = 0;

        /** False if there are more places than may be. */
        boolean gather(Loom loom) {
            places = 0;
            for (int card = 0; card < loom.cards; card++) {
                if (loom.timesPicked(card) > 0 && !gatherFrom(loom, card)) {
                    return false;
                }
            }
            return true;
        }

        private boolean gatherFrom(Loom loom, int card) {
            for (int hook = 0; hook < HOOKS; hook++) {
                if (loom.valueAt(card, hook) == EATEN) {
                    if (places >= MOST_PLACES) {
                        return false;
                    }
                    cards[places] = card;
                    hooks[places] = hook;
                    places++;
                }
            }
            return true;
        }

        void search(Loom loom, Cloth cloth, int wanted) {
            total = 0;
            wantedWay = 0;
            for (int place = 0; place < places; place++) {
                holeTimes[place] = 0;
            }
            cloth.weave(loom);
            int all = 1 << places;
            for (int way = 0; way < all; way++) {
                if (way > 0) {
                    turnOver(cloth, way ^ (way - 1));
                }
                if (cloth.firstBroken(loom) < 0) {
                    tally(way, wanted);
                }
            }
        }

        private void turnOver(Cloth cloth, int changed) {
            for (int place = 0; place < places; place++) {
                if (((changed >> place) & 1) == 0) {
                    // Counting up changes low bits alone, without a gap.
                    break;
                }
                cloth.turnOver(cards[place], hooks[place]);
            }
        }

        private void tally(int way, int wanted) {
            if (total == wanted) {
                wantedWay = way;
            }
            total++;
            for (int place = 0; place < places; place++) {
                holeTimes[place] += (way >> place) & 1;
            }
        }

        /** Which of the places it is, or -1. */
        int placeOf(int card, int hook) {
            for (int place = 0; place < places; place++) {
                if (cards[place] == card && hooks[place] == hook) {
                    return place;
                }
            }
            return -1;
        }

        int inAll(int place) {
            if (holeTimes[place] == 0) {
                return NO_HOLE;
            }
            return holeTimes[place] == total ? HOLE : 2;
        }

        void fillInto(Loom loom) {
            for (int place = 0; place < places; place++) {
                loom.put(cards[place], hooks[place], (wantedWay >> place) & 1);
            }
        }

        /** The caller has looked whether there is a place. */
        int mostTelling() {
            int best = 0;
            for (int place = 1; place < places; place++) {
                if (leftAtWorse(place) < leftAtWorse(best)) {
                    best = place;
                }
            }
            return best;
        }

        private int leftAtWorse(int place) {
            return Math.max(holeTimes[place], total - holeTimes[place]);
        }
    }

    /** The ORDERS of a set of CARDS: how many, and the one that is wanted. */
    private static final class Orders {
        int size = 0;
        int total = 0;
        final int[] wantedCards = new int[MOST_ORDERED];
        private final int[] cards = new int[MOST_ORDERED];

        /** The caller has looked that the set has no more CARDS than may be. */
        void search(Loom loom, Cloth cloth, int set, int wanted) {
            begin(set);
            cloth.weave(loom);
            int all = 1;
            for (int factor = 2; factor <= size; factor++) {
                all *= factor;
            }
            for (int tried = 0; tried < all; tried++) {
                cloth.reorder(cards, size);
                if (cloth.firstBroken(loom) < 0) {
                    tally(wanted);
                }
                advance();
            }
        }

        private void begin(int set) {
            size = 0;
            total = 0;
            for (int card = 0; card < MOST_CARDS && size < MOST_ORDERED; card++) {
                if (((set >> card) & 1) == 1) {
                    cards[size] = card;
                    size++;
                }
            }
        }

        private void tally(int wanted) {
            if (total == wanted) {
                System.arraycopy(cards, 0, wantedCards, 0, size);
            }
            total++;
        }

        /** To the next order by numbers; behind the last one nothing changes. */
        private void advance() {
            int rise = size - 2;
            while (rise >= 0 && cards[rise] > cards[rise + 1]) {
                rise--;
            }
            if (rise < 0) {
                return;
            }
            int above = size - 1;
            while (above > rise && cards[above] < cards[rise]) {
                above--;
            }
            swap(rise, above);
            int low = rise + 1;
            int high = size - 1;
            while (low < high) {
                swap(low, high);
                low++;
                high--;
            }
        }

        private void swap(int one, int other) {
            int card = cards[one];
            cards[one] = cards[other];
            cards[other] = card;
        }
    }

    /** THE TAPE, and the reading of THE TEXT that stands on it. */
    private static final class Text {
        private static final int END = 0;
        private static final int WORD = 1;
        private static final int NUMBER = 2;
        private static final int PUNCHES = 3;
        private static final int SIGN = 4;
        private static final int BAD = 5;
        private static final int MOST_NUMBER = 999;

        int size = 0;
        private final int[] bytes = new int[MOST_BYTES];
        private int token = END;
        private int start = 0;
        private int end = 0;
        private int number = 0;

        /** The caller has looked whether there is room. */
        void addByte(int b) {
            bytes[size] = b;
            size++;
        }

        /** How many ITEMS came to the loom, or -1 less the place of the FAULT. */
        int readInto(Loom loom) {
            end = 0;
            // An ITEM has a byte at least, so there are no more ITEMS than bytes.
            for (int items = 1; items <= MOST_BYTES; items++) {
                advance();
                if (!readItem(loom)) {
                    return -1 - start;
                }
                if (token == END) {
                    return items;
                }
                if (token != SIGN) {
                    return -1 - start;
                }
            }
            return -1 - start;
        }

        /**
         * Each reading of an ITEM ends at the TOKEN behind it, or, with false, at the first one
         * that can't stand there.
         */
        private boolean readItem(Loom loom) {
            if (token != WORD) {
                return false;
            }
            if (isWord("card")) {
                return readCard(loom);
            }
            if (isWord("tie")) {
                return readTie(loom);
            }
            if (isWord("order")) {
                return readOrder(loom);
            }
            for (int kind = 0; kind < KINDS; kind++) {
                if (isWord(nameOf(kind))) {
                    return readLaw(loom, kind);
                }
            }
            return false;
        }

        private boolean readCard(Loom loom) {
            if (loom.cards >= MOST_CARDS) {
                return false;
            }
            advance();
            if (token != PUNCHES || end - start != HOOKS) {
                return false;
            }
            int holes = 0;
            int eaten = 0;
            for (int hook = 0; hook < HOOKS; hook++) {
                if (bytes[start + hook] == '#') {
                    holes |= 1 << hook;
                } else if (bytes[start + hook] == '?') {
                    eaten |= 1 << hook;
                }
            }
            loom.addCard(holes, eaten);
            advance();
            return true;
        }

        private boolean readTie(Loom loom) {
            advance();
            if (token != NUMBER || !isThread(number)) {
                return false;
            }
            int thread = number;
            advance();
            if (token != NUMBER || !isHook(number)) {
                return false;
            }
            loom.ties[thread] = number;
            advance();
            return true;
        }

        private boolean readOrder(Loom loom) {
            advance();
            loom.rows = 0;
            for (int i = 0; i < MOST_ROWS && token == NUMBER && loom.hasCard(number); i++) {
                loom.addPick(number);
                advance();
            }
            // A NUMBER that is left here may not be: no such CARD, or the 21st.
            return loom.rows > 0 && token != NUMBER;
        }

        private boolean readLaw(Loom loom, int kind) {
            if (loom.laws >= MOST_LAWS) {
                return false;
            }
            advance();
            if (token != NUMBER || !isLimit(number)) {
                return false;
            }
            loom.addLaw(kind, number);
            advance();
            return true;
        }

        private static String nameOf(int kind) {
            switch (kind) {
                case LAW:
                    return "law";
                case EVEN:
                    return "even";
                case LONG:
                    return "long";
                case STEP:
                    return "step";
                case TIGHT:
                    return "tight";
                case TURN:
                    return "turn";
                default:
                    return "";
            }
        }

        private boolean isWord(String word) {
            if (end - start != word.length()) {
                return false;
            }
            for (int i = 0; i < word.length(); i++) {
                if (bytes[start + i] != word.charAt(i)) {
                    return false;
                }
            }
            return true;
        }

        private void advance() {
            start = end;
            while (start < size && bytes[start] == ' ') {
                start++;
            }
            token = start < size ? tokenBegunBy(bytes[start]) : END;
            end = start;
            if (token == SIGN || token == BAD) {
                end = start + 1;
                return;
            }
            while (end < size && tokenBegunBy(bytes[end]) == token) {
                end++;
            }
            if (token == NUMBER) {
                readNumber();
            }
        }

        private void readNumber() {
            number = 0;
            for (int i = start; i < end; i++) {
                // It stays just above the most, since 120 digits are more than an int holds.
                number = Math.min(10 * number + bytes[i] - '0', MOST_NUMBER + 1);
            }
            if (number > MOST_NUMBER) {
                token = BAD;
            }
        }

        private static int tokenBegunBy(int b) {
            if (b >= 'a' && b <= 'z') {
                return WORD;
            }
            if (b >= '0' && b <= '9') {
                return NUMBER;
            }
            if (b == '#' || b == '.' || b == '?') {
                return PUNCHES;
            }
            return b == ';' ? SIGN : BAD;
        }
    }

    /** A row of numbers; of 0 bits it is MISSING. */
    private static final class Sheet {
        int bits = 0;
        int size = 0;
        final long[] numbers = new long[MOST_NUMBERS];

        void begin(int newBits, int n) {
            bits = newBits;
            size = Math.min(n, MOST_NUMBERS);
            for (int i = 0; i < size; i++) {
                numbers[i] = 0;
            }
        }

        boolean isMissing() {
            return bits == 0;
        }

        boolean hasRange(int from, int n) {
            // Not from + n: that may wrap around.
            return from >= 0 && n >= 0 && n <= size && from <= size - n;
        }

        /** A number keeps the lowest bits of v, the highest of them as its sign. */
        void put(int i, long v) {
            int above = 64 - bits;
            numbers[i] = (v << above) >> above;
        }

        int threadsIn(int i) {
            return (int) (numbers[i] & ((1 << THREADS) - 1));
        }
    }
}
