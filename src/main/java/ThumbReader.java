/** Heads read by thumb for employers; what each call answers is told in ../shared/DOC.md. */
public final class ThumbReader {
    public static final int BAD = -1, FULL = -2, FINDING = -3, STATE = -4, SPENT = -6, NONE = -9;

    private static final int NOTHING = 1, BEYOND = 2, UNLIKE = 3, NOUGHT = 4, SIZE = 5;

    private static final int ROWS = 6, ROW_SIZE = 40, TEXTS = 4, TEXT_SIZE = 80, MISSING = -1;
    private static final int BLANK = 32, FIGURE_0 = 48, LETTER_HEAD = 104, LETTER_POST = 112;
    private static final int PLACES = 4, DEEDS = 40, KEPT = 3, TOP_BUMP = 5, TOP_ERROR = 2, TOP_READING = 9;

    // The sorts of items of an OFFICE, in the order in which a TEXT tells them.
    private static final int HEAD = 0, THUMB = 1, POST = 2;
    private static final int HEADS = 5, THUMBS = 4, POSTS = 4;
    private static final int[] MOST_ITEMS = {5, 4, 4};
    private static final int HAIR = 4, PAY = 4, TOGETHER = 5;
    private static final int KIND = 0, ERROR = 1, WISH = 2;

    // By sorts of items: how many figures one has, and the bounds of each (five to a sort).
    private static final int[] FIGURES = {5, 2, 5};
    private static final int[] LOWEST = {0, 0, 0, 0, 0, 0, 0, 0, 0, 0, 0, 0, 0, 0, 1};
    private static final int[] HIGHEST = {5, 5, 5, 5, 3, 2, 3, 0, 0, 0, 6, 6, 6, 6, 9};

    // By KINDS of THUMBS. One step to the KIND above is enough: nobody asks whether one is a THUMB (KIND 0).
    private static final int KINDS = 6, HEAVY = 1, LIGHT = 2, WISHING = 3, CLERK = 4, DULL = 5;
    private static final int[] LETTERS = {116, 118, 108, 119, 99, 100};
    private static final int[] ABOVE = {0, 0, 0, 0, 3, 1};
    private static final int[] MORE = {0, -1, 1, 0, 1, -1};
    private static final int[] MORE_AT_WISH = {0, 0, 0, 1, 1, 0};
    private static final int[] TOP_MIDDLE = {9, 9, 9, 9, 9, 3};

    // What a DEED does: below GROWS it is the PLACE of a PAD, from CUTS on the length of HAIR.
    private static final int GROWS = 4, CUTS = 5, DEED_SORTS = 8;

    private static final long LOT_FACTOR = 48271L, LOT_MODULUS = 2147483647L;

    private final Shelf rows = new Shelf(ROWS, ROW_SIZE);
    private final Shelf texts = new Shelf(TEXTS, TEXT_SIZE);
    private final Kept[] keptOffices = new Kept[KEPT];
    private final Scan scan = new Scan();
    private final Planner planner = new Planner();
    private final Told told = new Told();
    private final int[] lotReading = new int[PLACES];
    // A TEXT is read into the draft, which takes the place of the OFFICE if there is no FAULT.
    private Office now = new Office();
    private Office draft = new Office();

    public ThumbReader() {
        for (int k = 0; k < KEPT; k++) {
            keptOffices[k] = new Kept();
        }
    }

    // ---- 1 rows, texts, offices

    public int row(int r, int n) {
        if (!rows.allows(r) || n > ROW_SIZE) {
            return BAD;
        }
        if (n < 0) {
            return told.refuse(SIZE);
        }
        rows.renew(r, n, 0);
        return n;
    }

    public int lay(int r, int i, int v) {
        if (!rows.allows(r)) {
            return BAD;
        }
        int finding = rows.findingAt(r, i);
        if (finding != 0) {
            return told.refuse(finding);
        }
        int was = rows.cells[r][i];
        rows.cells[r][i] = v;
        return told.tell(was);
    }

    public int at(int r, int i) {
        if (!rows.allows(r)) {
            return BAD;
        }
        int finding = rows.findingAt(r, i);
        if (finding != 0) {
            return told.refuse(finding);
        }
        return told.tell(rows.cells[r][i]);
    }

    public int tear(int r) {
        if (!rows.allows(r)) {
            return BAD;
        }
        if (rows.lacks(r)) {
            return told.refuse(NOTHING);
        }
        rows.sizes[r] = MISSING;
        return 1;
    }

    public int copy(int r, int i, int to, int j, int n) {
        if (!rows.allows(r) || !rows.allows(to)) {
            return BAD;
        }
        if (n < 0) {
            return told.refuse(SIZE);
        }
        if (rows.lacks(r) || rows.lacks(to)) {
            return told.refuse(NOTHING);
        }
        if (!rows.spans(r, i, n) || !rows.spans(to, j, n)) {
            return told.refuse(BEYOND);
        }
        System.arraycopy(rows.cells[r], i, rows.cells[to], j, n);
        return 1;
    }

    public int mean(int r) {
        if (!rows.allows(r)) {
            return BAD;
        }
        if (rows.lacks(r)) {
            return told.refuse(NOTHING);
        }
        int size = rows.sizes[r];
        if (size == 0) {
            return told.refuse(NOUGHT);
        }
        return told.tell((int) (rows.sum(r) / size));
    }

    public int text(int t, int n) {
        if (!texts.allows(t) || n > TEXT_SIZE) {
            return BAD;
        }
        if (n < 0) {
            return told.refuse(SIZE);
        }
        texts.renew(t, n, BLANK);
        return n;
    }

    public int put(int t, int i, int v) {
        if (!texts.allows(t)) {
            return BAD;
        }
        int finding = texts.findingAt(t, i);
        if (finding != 0) {
            return told.refuse(finding);
        }
        int was = texts.cells[t][i];
        texts.cells[t][i] = (byte) v;
        return was + 1000;
    }

    public int fault(int t) {
        if (!texts.allows(t)) {
            return BAD;
        }
        if (texts.lacks(t)) {
            return told.refuse(NOTHING);
        }
        return scan.into(draft, texts.cells[t], texts.sizes[t]);
    }

    public int office(int t) {
        if (!texts.allows(t)) {
            return BAD;
        }
        if (texts.lacks(t)) {
            return told.refuse(NOTHING);
        }
        if (scan.into(draft, texts.cells[t], texts.sizes[t]) != NONE) {
            return STATE;
        }
        Office gone = now;
        now = draft;
        draft = gone;
        now.goBack(0);
        for (int k = 0; k < KEPT; k++) {
            keptOffices[k].done = MISSING;
        }
        return now.sizes[HEAD];
    }

    public int head(int h, int what) {
        if (!now.has(HEAD, h) || what < 0 || what > TOGETHER) {
            return BAD;
        }
        return told.tell(now.ofHead(h, what));
    }

    public int thumb(int t, int what) {
        if (!now.has(THUMB, t) || what < 0 || what > WISH) {
            return BAD;
        }
        return told.tell(now.thumbs[t][what]);
    }

    public int post(int p, int what) {
        if (!now.has(POST, p) || what < 0 || what > PAY) {
            return BAD;
        }
        return told.tell(now.posts[p][what]);
    }

    public int mark(int t, int kind) {
        if (!now.has(THUMB, t) || kind < HEAVY || kind >= KINDS) {
            return BAD;
        }
        if (!now.isOf(t, kind)) {
            return told.refuse(UNLIKE);
        }
        switch (kind) {
            case HEAVY:
                return Marks.heavy(now);
            case LIGHT:
                return Marks.light(now, t);
            case WISHING:
                return Marks.wishing(now, t);
            case CLERK:
                return Marks.clerk(now, t);
            default:
                return Marks.dull(now, t);
        }
    }

    public int error(int t, int v) {
        if (!now.has(THUMB, t) || v < 0 || v > TOP_ERROR) {
            return BAD;
        }
        int was = now.thumbs[t][ERROR];
        now.thumbs[t][ERROR] = v;
        return was;
    }

    // ---- 2 deeds

    public int pad(int h, int place) {
        if (!now.has(HEAD, h) || !isPlace(place)) {
            return BAD;
        }
        if (now.heads[h][place] >= TOP_BUMP) {
            return STATE;
        }
        if (now.done >= DEEDS) {
            return FULL;
        }
        now.act(h, place);
        return now.heads[h][place];
    }

    public int grow(int h) {
        if (!now.has(HEAD, h)) {
            return BAD;
        }
        if (now.done >= DEEDS) {
            return FULL;
        }
        now.act(h, GROWS);
        return now.together(h);
    }

    public int cut(int h, int v) {
        if (!now.has(HEAD, h) || v < 0 || v > 2) {
            return BAD;
        }
        int was = now.heads[h][HAIR];
        if (was <= v) {
            return STATE;
        }
        if (now.done >= DEEDS) {
            return FULL;
        }
        now.act(h, CUTS + v);
        return was;
    }

    public int undo(int n) {
        if (n < 0 || n > now.done) {
            return BAD;
        }
        int undone = now.done - n;
        now.goBack(n);
        return undone;
    }

    public int keep(int k) {
        if (!isKeptPlace(k)) {
            return BAD;
        }
        if (now.sizes[HEAD] == 0) {
            return STATE;
        }
        keptOffices[k].take(now);
        return now.done;
    }

    public int on(int k) {
        if (!isKeptPlace(k)) {
            return BAD;
        }
        if (keptOffices[k].done == MISSING) {
            return told.refuse(NOTHING);
        }
        keptOffices[k].giveTo(now);
        return now.done;
    }

    // ---- 3 readings

    public int reads(int t, int h, int place) {
        if (!now.has(THUMB, t) || !now.has(HEAD, h) || !isPlace(place)) {
            return BAD;
        }
        told.tell(now.most(t, h, place, 0));
        return now.least(t, h, place, 0);
    }

    public int fits(int t, int h, int r) {
        if (!now.has(THUMB, t) || !now.has(HEAD, h) || !rows.allows(r)) {
            return BAD;
        }
        int finding = findingOfReading(r);
        if (finding != 0) {
            return told.refuse(finding);
        }
        return now.canRead(t, h, rows.cells[r]) ? 1 : 0;
    }

    public int whose(int t, int r) {
        if (!now.has(THUMB, t) || !rows.allows(r)) {
            return BAD;
        }
        int finding = findingOfReading(r);
        if (finding != 0) {
            return told.refuse(finding);
        }
        int byAny = 0;
        for (int any = 0; any < now.sizes[THUMB]; any++) {
            byAny |= now.headsThatFit(any, rows.cells[r]);
        }
        told.tell(byAny);
        return now.headsThatFit(t, rows.cells[r]);
    }

    public int who(int h, int r) {
        if (!now.has(HEAD, h) || !rows.allows(r)) {
            return BAD;
        }
        int finding = findingOfReading(r);
        if (finding != 0) {
            return told.refuse(finding);
        }
        int bits = 0;
        for (int t = 0; t < now.sizes[THUMB]; t++) {
            if (now.canRead(t, h, rows.cells[r])) {
                bits |= 1 << t;
            }
        }
        return bits;
    }

    public int odds(int t, int h, int r) {
        if (!now.has(THUMB, t) || !now.has(HEAD, h) || !rows.allows(r)) {
            return BAD;
        }
        int finding = findingOfReading(r);
        if (finding != 0) {
            return told.refuse(finding);
        }
        int fitting = now.headsThatFit(t, rows.cells[r]);
        if (fitting == 0) {
            return told.refuse(NOUGHT);
        }
        long all = 0;
        for (int any = 0; any < now.sizes[HEAD]; any++) {
            all += now.weight(t, any, fitting);
        }
        return told.tellFraction(now.weight(t, h, fitting), all);
    }

    public int look(int t) {
        if (!now.has(THUMB, t)) {
            return BAD;
        }
        int best = 0;
        int most = -1;
        for (int place = 0; place < PLACES; place++) {
            int pairs = now.pairsApart(t, place);
            if (pairs > most) {
                most = pairs;
                best = place;
            }
        }
        told.tell(most);
        return best;
    }

    public int alike(int t, int h) {
        if (!now.has(THUMB, t) || !now.has(HEAD, h)) {
            return BAD;
        }
        int bits = 0;
        for (int other = 0; other < now.sizes[HEAD]; other++) {
            if (now.maySeem(t, h, other)) {
                bits |= 1 << other;
            }
        }
        return bits;
    }

    // ---- 4 who is hired

    public int suits(int t, int h, int p) {
        if (!now.has(THUMB, t) || !now.has(HEAD, h) || !now.has(POST, p)) {
            return BAD;
        }
        if (now.isSure(t, h, p, NONE)) {
            return 2;
        }
        return now.isLucky(t, h, p) ? 1 : 0;
    }

    public int luck(int t, int h, int p) {
        if (!now.has(THUMB, t) || !now.has(HEAD, h) || !now.has(POST, p)) {
            return BAD;
        }
        long good = 1;
        long all = 1;
        for (int place = 0; place < PLACES; place++) {
            int least = now.least(t, h, place, 0);
            int most = now.most(t, h, place, 0);
            good *= Math.max(0, most - Math.max(least, now.posts[p][place]) + 1);
            all *= now.ways(t, h, place);
        }
        return told.tellFraction(good, all);
    }

    public int pads(int t, int h, int p, int r) {
        if (!now.has(THUMB, t) || !now.has(HEAD, h) || !now.has(POST, p) || !rows.allows(r)) {
            return BAD;
        }
        int sum = 0;
        for (int place = 0; place < PLACES; place++) {
            int more = now.fewestPads(t, h, p, place);
            if (more == NONE) {
                return NONE;
            }
            sum += more;
        }
        rows.renew(r, PLACES, 0);
        for (int place = 0; place < PLACES; place++) {
            rows.cells[r][place] = now.fewestPads(t, h, p, place);
        }
        return sum;
    }

    public int all(int h, int p) {
        if (!now.has(HEAD, h) || !now.has(POST, p)) {
            return BAD;
        }
        if (now.sizes[THUMB] == 0) {
            return STATE;
        }
        int sum = 0;
        for (int place = 0; place < PLACES; place++) {
            int most = 0;
            for (int t = 0; t < now.sizes[THUMB]; t++) {
                int more = now.fewestPads(t, h, p, place);
                if (more == NONE) {
                    return NONE;
                }
                most = Math.max(most, more);
            }
            sum += most;
        }
        return sum;
    }

    public int finds(int t, int h, int place) {
        if (!now.has(THUMB, t) || !now.has(HEAD, h) || !isPlace(place)) {
            return BAD;
        }
        if (now.heads[h][place] >= TOP_BUMP) {
            return STATE;
        }
        for (int other = 0; other < now.sizes[THUMB]; other++) {
            if (other != t && now.least(other, h, place, 1) > now.most(other, h, place, 0)) {
                return other;
            }
        }
        return NONE;
    }

    public int posts(int t, int h) {
        if (!now.has(THUMB, t) || !now.has(HEAD, h)) {
            return BAD;
        }
        int lucky = 0;
        for (int p = 0; p < now.sizes[POST]; p++) {
            if (now.isLucky(t, h, p)) {
                lucky |= 1 << p;
            }
        }
        told.tell(lucky);
        return now.surePosts(t, h, NONE);
    }

    // ---- 5 plans

    public int plan(int t, int r) {
        if (!now.has(THUMB, t) || !rows.allows(r)) {
            return BAD;
        }
        if (now.sizes[HEAD] == 0) {
            return STATE;
        }
        planner.openByOne(now, t);
        planner.reckon(now);
        return layBestPlan(r);
    }

    public int plans(int t) {
        if (!now.has(THUMB, t)) {
            return BAD;
        }
        planner.openByOne(now, t);
        planner.reckon(now);
        return told.tellFraction(planner.ways[0][0], 1);
    }

    public int safest(int r) {
        if (!rows.allows(r)) {
            return BAD;
        }
        if (now.sizes[HEAD] == 0) {
            return STATE;
        }
        planner.openByAll(now);
        planner.reckon(now);
        return layBestPlan(r);
    }

    public int gain(int t, int h) {
        if (!now.has(THUMB, t) || !now.has(HEAD, h)) {
            return BAD;
        }
        planner.openByOne(now, t);
        planner.reckon(now);
        int without = planner.bestPay();
        int best = NONE;
        int most = 0;
        for (int place = 0; place < PLACES; place++) {
            if (now.heads[h][place] < TOP_BUMP) {
                planner.open[h] = now.surePosts(t, h, place);
                planner.reckon(now);
                if (planner.bestPay() - without > most) {
                    most = planner.bestPay() - without;
                    best = place;
                }
            }
        }
        if (best == NONE) {
            return NONE;
        }
        told.tell(best);
        return most;
    }

    // ---- 6 what is learnt

    public int learn(int r, int error) {
        if (!rows.allows(r) || error < 0 || error > TOP_ERROR) {
            return BAD;
        }
        int finding = findingOfThrees(r);
        if (finding != 0) {
            return told.refuse(finding);
        }
        int kinds = 0;
        int wishes = 0;
        for (int kind = 0; kind < KINDS; kind++) {
            for (int wish = 0; wish < PLACES; wish++) {
                if (threesFit(r, kind, error, wish)) {
                    kinds |= 1 << kind;
                    wishes |= 1 << wish;
                }
            }
        }
        told.tell(wishes);
        return kinds;
    }

    public int tells(int r) {
        if (!rows.allows(r)) {
            return BAD;
        }
        int finding = findingOfFates(r);
        if (finding != 0) {
            return told.refuse(finding);
        }
        int places = (1 << PLACES) - 1;
        int pairs = 0;
        for (int h = 0; h < now.sizes[HEAD]; h++) {
            for (int other = 0; other < now.sizes[HEAD]; other++) {
                if (rows.cells[r][h] == 1 && rows.cells[r][other] == 0) {
                    places &= now.placesAbove(h, other);
                    pairs += now.together(h) > now.together(other) ? 1 : 0;
                }
            }
        }
        told.tell(pairs);
        return places;
    }

    public int lots(int t, int n, int seed) {
        if (!now.has(THUMB, t) || n < 1 || n > 5 || seed < 1 || seed >= LOT_MODULUS) {
            return BAD;
        }
        int heads = now.sizes[HEAD];
        if (heads == 0) {
            return STATE;
        }
        int alone = 0;
        long lot = seed;
        for (int i = 0; i < n; i++) {
            lot = nextLot(lot);
            int h = (int) (lot % heads);
            for (int place = 0; place < PLACES; place++) {
                lot = nextLot(lot);
                lotReading[place] = now.least(t, h, place, 0) + (int) (lot % now.ways(t, h, place));
            }
            alone += now.headsThatFit(t, lotReading) == 1 << h ? 1 : 0;
        }
        return alone;
    }

    // ---- 7 what is told

    public int asked() {
        return told.number;
    }

    public long upper() {
        return told.above;
    }

    public long lower() {
        return told.below;
    }

    public int count(int what) {
        switch (what) {
            case 0:
                return now.sizes[HEAD];
            case 1:
                return now.sizes[THUMB];
            case 2:
                return now.sizes[POST];
            case 3:
                return now.done;
            case 4:
                return now.allTogether();
            case 5:
                return now.wishingOnes();
            case 6:
                return rows.present();
            case 7:
                return texts.present();
            case 8:
                return presentOffices();
            default:
                return BAD;
        }
    }

    public int finding() {
        return told.latest;
    }

    public int findings(int f) {
        if (f < NOTHING || f > SIZE) {
            return BAD;
        }
        return told.times[f];
    }

    public long digest() {
        long h = 17;
        for (int what = 0; what <= 8; what++) {
            h = 31 * h + count(what);
        }
        h = now.mix(h);
        for (int k = 0; k < KEPT; k++) {
            h = 31 * h + keptOffices[k].done;
        }
        return texts.mix(rows.mix(h));
    }

    // ---- what the calls share

    private static boolean isPlace(int place) {
        return place >= 0 && place < PLACES;
    }

    private static boolean isKeptPlace(int k) {
        return k >= 0 && k < KEPT;
    }

    private static long nextLot(long lot) {
        return LOT_FACTOR * lot % LOT_MODULUS;
    }

    private int findingOfReading(int r) {
        if (rows.lacks(r)) {
            return NOTHING;
        }
        if (rows.sizes[r] != PLACES) {
            return SIZE;
        }
        for (int place = 0; place < PLACES; place++) {
            if (rows.cells[r][place] < 0 || rows.cells[r][place] > TOP_READING) {
                return UNLIKE;
            }
        }
        return 0;
    }

    private int findingOfThrees(int r) {
        if (rows.lacks(r)) {
            return NOTHING;
        }
        if (rows.sizes[r] % 3 != 0) {
            return SIZE;
        }
        int[] cells = rows.cells[r];
        for (int i = 0; i + 2 < rows.sizes[r]; i += 3) {
            boolean number = cells[i + 2] >= 0 && cells[i + 2] <= TOP_READING;
            if (!now.has(HEAD, cells[i]) || !isPlace(cells[i + 1]) || !number) {
                return UNLIKE;
            }
        }
        return 0;
    }

    private int findingOfFates(int r) {
        if (rows.lacks(r)) {
            return NOTHING;
        }
        if (rows.sizes[r] != now.sizes[HEAD]) {
            return SIZE;
        }
        for (int h = 0; h < rows.sizes[r]; h++) {
            if (rows.cells[r][h] != 0 && rows.cells[r][h] != 1) {
                return UNLIKE;
            }
        }
        return 0;
    }

    /** Only behind findingOfThrees, which sees to it that each HEAD and PLACE is there. */
    private boolean threesFit(int r, int kind, int error, int wish) {
        int[] cells = rows.cells[r];
        for (int i = 0; i + 2 < rows.sizes[r]; i += 3) {
            int place = cells[i + 1];
            int middle = Office.middle(kind, place == wish, now.felt(cells[i], place, 0));
            if (Math.abs(cells[i + 2] - middle) > error) {
                return false;
            }
        }
        return true;
    }

    private int layBestPlan(int r) {
        int heads = now.sizes[HEAD];
        int taken = 0;
        rows.renew(r, heads, NONE);
        for (int h = 0; h < heads; h++) {
            int p = planner.bestPost(now, h, taken);
            if (p != NONE) {
                rows.cells[r][h] = p;
                taken |= 1 << p;
            }
        }
        return planner.bestPay();
    }

    private int presentOffices() {
        int sum = 0;
        for (int k = 0; k < KEPT; k++) {
            sum += keptOffices[k].done == MISSING ? 0 : 1;
        }
        return sum;
    }

    /** Rows of ints by number; each keeps its room, so that making one anew takes none. */
    private static final class Shelf {
        private final int[][] cells;
        private final int[] sizes;

        Shelf(int many, int widest) {
            cells = new int[many][widest];
            sizes = new int[many];
            for (int r = 0; r < many; r++) {
                sizes[r] = MISSING;
            }
        }

        boolean allows(int r) {
            return r >= 0 && r < sizes.length;
        }

        boolean lacks(int r) {
            return sizes[r] == MISSING;
        }

        int findingAt(int r, int i) {
            if (lacks(r)) {
                return NOTHING;
            }
            return i < 0 || i >= sizes[r] ? BEYOND : 0;
        }

        /** n is subtracted, not added, so that no sum can wrap around. */
        boolean spans(int r, int i, int n) {
            return i >= 0 && n <= sizes[r] && i <= sizes[r] - n;
        }

        void renew(int r, int n, int v) {
            sizes[r] = n;
            for (int i = 0; i < n; i++) {
                cells[r][i] = v;
            }
        }

        long sum(int r) {
            long sum = 0;
            for (int i = 0; i < sizes[r]; i++) {
                sum += cells[r][i];
            }
            return sum;
        }

        int present() {
            int sum = 0;
            for (int r = 0; r < sizes.length; r++) {
                sum += lacks(r) ? 0 : 1;
            }
            return sum;
        }

        long mix(long h) {
            for (int r = 0; r < sizes.length; r++) {
                h = 31 * h + sizes[r];
                for (int i = 0; i < sizes[r]; i++) {
                    h = 31 * h + cells[r][i];
                }
            }
            return h;
        }
    }

    /** What was told last, beside the calls' own answers. */
    private static final class Told {
        private final int[] times = new int[SIZE + 1];
        private int latest;
        private int number;
        private long above;
        private long below = 1;

        int tell(int v) {
            number = v;
            return 1;
        }

        int tellFraction(long upper, long lower) {
            long divisor = commonDivisor(upper, lower);
            if (divisor != 0) {
                above = upper / divisor;
                below = lower / divisor;
            }
            return 1;
        }

        int refuse(int finding) {
            latest = finding;
            times[finding]++;
            return FINDING;
        }

        /** A hundred steps are more than two longs can need. */
        private static long commonDivisor(long a, long b) {
            for (int step = 0; step < 100 && b != 0; step++) {
                long rest = a % b;
                a = b;
                b = rest;
            }
            return a;
        }
    }

    /** HEADS, THUMBS, POSTS as they are now, with the DEEDS that made them so. */
    private static final class Office {
        // As the TEXT told them: DEEDS are undone by doing those that stay again from here.
        private final int[][] first = new int[HEADS][HAIR + 1];
        private final int[][] heads = new int[HEADS][HAIR + 1];
        private final int[][] thumbs = new int[THUMBS][WISH + 1];
        private final int[][] posts = new int[POSTS][PAY + 1];
        private final int[] sizes = new int[3];
        private final int[] deeds = new int[DEEDS];
        private int done;

        boolean has(int sort, int i) {
            return i >= 0 && i < sizes[sort];
        }

        int ofHead(int h, int what) {
            return what == TOGETHER ? together(h) : heads[h][what];
        }

        int together(int h) {
            int sum = 0;
            for (int place = 0; place < PLACES; place++) {
                sum += heads[h][place];
            }
            return sum;
        }

        int allTogether() {
            int sum = 0;
            for (int h = 0; h < sizes[HEAD]; h++) {
                sum += together(h);
            }
            return sum;
        }

        int wishingOnes() {
            int sum = 0;
            for (int t = 0; t < sizes[THUMB]; t++) {
                sum += isOf(t, WISHING) ? 1 : 0;
            }
            return sum;
        }

        boolean isOf(int t, int kind) {
            return thumbs[t][KIND] == kind || ABOVE[thumbs[t][KIND]] == kind;
        }

        long mix(long h) {
            for (int i = 0; i < sizes[HEAD]; i++) {
                for (int what = 0; what <= TOGETHER; what++) {
                    h = 31 * h + ofHead(i, what);
                }
            }
            for (int i = 0; i < sizes[THUMB]; i++) {
                for (int what = 0; what <= WISH; what++) {
                    h = 31 * h + thumbs[i][what];
                }
            }
            for (int i = 0; i < sizes[POST]; i++) {
                for (int what = 0; what <= PAY; what++) {
                    h = 31 * h + posts[i][what];
                }
            }
            return h;
        }

        /** Only if there are fewer than 40 DEEDS. */
        void act(int h, int what) {
            deeds[done] = h * DEED_SORTS + what;
            repeat(deeds[done]);
            done++;
        }

        void goBack(int n) {
            for (int h = 0; h < sizes[HEAD]; h++) {
                System.arraycopy(first[h], 0, heads[h], 0, HAIR + 1);
            }
            for (int d = 0; d < n; d++) {
                repeat(deeds[d]);
            }
            done = n;
        }

        private void repeat(int deed) {
            int[] head = heads[deed / DEED_SORTS];
            int what = deed % DEED_SORTS;
            if (what >= CUTS) {
                head[HAIR] = what - CUTS;
                return;
            }
            for (int place = 0; place < PLACES; place++) {
                if (what == GROWS || what == place) {
                    head[place] = Math.min(TOP_BUMP, head[place] + 1);
                }
            }
        }

        /** With so many PADS more than there are. */
        int felt(int h, int place, int more) {
            int bump = heads[h][place] + more;
            return heads[h][HAIR] > 1 && bump > 0 ? bump - 1 : bump;
        }

        static int middle(int kind, boolean wished, int felt) {
            int wanted = felt + MORE[kind] + (wished ? MORE_AT_WISH[kind] : 0);
            if (wanted < 0) {
                return 0;
            }
            return wanted > TOP_MIDDLE[kind] ? TOP_MIDDLE[kind] : wanted;
        }

        int middleBy(int t, int h, int place, int more) {
            return middle(thumbs[t][KIND], thumbs[t][WISH] == place, felt(h, place, more));
        }

        int least(int t, int h, int place, int more) {
            return Math.max(0, middleBy(t, h, place, more) - thumbs[t][ERROR]);
        }

        int most(int t, int h, int place, int more) {
            return middleBy(t, h, place, more) + thumbs[t][ERROR];
        }

        int ways(int t, int h, int place) {
            return Math.max(1, most(t, h, place, 0) - least(t, h, place, 0) + 1);
        }

        boolean canRead(int t, int h, int[] numbers) {
            for (int place = 0; place < PLACES; place++) {
                if (numbers[place] < least(t, h, place, 0) || numbers[place] > most(t, h, place, 0)) {
                    return false;
                }
            }
            return true;
        }

        int headsThatFit(int t, int[] numbers) {
            int bits = 0;
            for (int h = 0; h < sizes[HEAD]; h++) {
                if (canRead(t, h, numbers)) {
                    bits |= 1 << h;
                }
            }
            return bits;
        }

        /** How likely a HEAD is among those that fit: by the READINGS of all the others, so that it is whole. */
        long weight(int t, int h, int fitting) {
            if ((fitting >> h & 1) == 0) {
                return 0;
            }
            long product = 1;
            for (int other = 0; other < sizes[HEAD]; other++) {
                if (other != h && (fitting >> other & 1) == 1) {
                    for (int place = 0; place < PLACES; place++) {
                        product *= ways(t, other, place);
                    }
                }
            }
            return product;
        }

        private boolean isApart(int t, int h, int other, int place) {
            return least(t, h, place, 0) > most(t, other, place, 0)
                || least(t, other, place, 0) > most(t, h, place, 0);
        }

        int pairsApart(int t, int place) {
            int pairs = 0;
            for (int h = 0; h < sizes[HEAD]; h++) {
                for (int other = 0; other < h; other++) {
                    pairs += isApart(t, h, other, place) ? 1 : 0;
                }
            }
            return pairs;
        }

        boolean maySeem(int t, int h, int other) {
            for (int place = 0; place < PLACES; place++) {
                if (isApart(t, h, other, place)) {
                    return false;
                }
            }
            return true;
        }

        int placesAbove(int h, int other) {
            int bits = 0;
            for (int place = 0; place < PLACES; place++) {
                if (heads[h][place] > heads[other][place]) {
                    bits |= 1 << place;
                }
            }
            return bits;
        }

        /** With one PAD more at a PLACE (NONE: as it is). */
        boolean isSure(int t, int h, int p, int padded) {
            for (int place = 0; place < PLACES; place++) {
                if (least(t, h, place, place == padded ? 1 : 0) < posts[p][place]) {
                    return false;
                }
            }
            return true;
        }

        boolean isLucky(int t, int h, int p) {
            for (int place = 0; place < PLACES; place++) {
                if (most(t, h, place, 0) < posts[p][place]) {
                    return false;
                }
            }
            return true;
        }

        int surePosts(int t, int h, int padded) {
            int bits = 0;
            for (int p = 0; p < sizes[POST]; p++) {
                if (isSure(t, h, p, padded)) {
                    bits |= 1 << p;
                }
            }
            return bits;
        }

        int fewestPads(int t, int h, int p, int place) {
            for (int more = 0; heads[h][place] + more <= TOP_BUMP; more++) {
                if (least(t, h, place, more) >= posts[p][place]) {
                    return more;
                }
            }
            return NONE;
        }
    }

    /** What a THUMB of each KIND tells of all HEADS. */
    private static final class Marks {
        static int heavy(Office office) {
            int sum = 0;
            for (int h = 0; h < office.sizes[HEAD]; h++) {
                for (int place = 0; place < PLACES; place++) {
                    sum += office.felt(h, place, 0) == 0 ? 1 : 0;
                }
            }
            return sum;
        }

        static int light(Office office, int t) {
            int most = 0;
            for (int h = 0; h < office.sizes[HEAD]; h++) {
                for (int place = 0; place < PLACES; place++) {
                    most = Math.max(most, office.most(t, h, place, 0));
                }
            }
            return most;
        }

        static int wishing(Office office, int t) {
            int sum = 0;
            for (int h = 0; h < office.sizes[HEAD]; h++) {
                sum += hasItsWish(office, t, h) ? 1 : 0;
            }
            return sum;
        }

        private static boolean hasItsWish(Office office, int t, int h) {
            int wish = office.thumbs[t][WISH];
            for (int place = 0; place < PLACES; place++) {
                if (place != wish && office.least(t, h, place, 0) >= office.least(t, h, wish, 0)) {
                    return false;
                }
            }
            return true;
        }

        static int clerk(Office office, int t) {
            int sum = 0;
            for (int h = 0; h < office.sizes[HEAD]; h++) {
                for (int place = 0; place < PLACES; place++) {
                    sum += office.least(t, h, place, 0) - office.felt(h, place, 0);
                }
            }
            return sum;
        }

        static int dull(Office office, int t) {
            int sum = 0;
            for (int h = 0; h < office.sizes[HEAD]; h++) {
                for (int place = 0; place < PLACES; place++) {
                    sum += office.middleBy(t, h, place, 0) == 3 ? 1 : 0;
                }
            }
            return sum;
        }
    }

    /** What differs between an OFFICE and one that is gone on from: DEEDS and ERRORS. */
    private static final class Kept {
        private final int[] deeds = new int[DEEDS];
        private final int[] errors = new int[THUMBS];
        private int done = MISSING;

        void take(Office office) {
            done = office.done;
            System.arraycopy(office.deeds, 0, deeds, 0, DEEDS);
            for (int t = 0; t < errors.length; t++) {
                errors[t] = office.thumbs[t][ERROR];
            }
        }

        void giveTo(Office office) {
            System.arraycopy(deeds, 0, office.deeds, 0, DEEDS);
            for (int t = 0; t < errors.length; t++) {
                office.thumbs[t][ERROR] = errors[t];
            }
            office.goBack(done);
        }
    }

    /** Reads a TEXT sign by sign into an OFFICE. */
    private static final class Scan {
        private Office office;
        private int sort;
        private int due;

        /** The FAULT, or NONE; with a FAULT the OFFICE is of no use. */
        int into(Office filled, int[] signs, int size) {
            office = filled;
            sort = HEAD;
            due = 0;
            for (int s = 0; s < office.sizes.length; s++) {
                office.sizes[s] = 0;
            }
            for (int i = 0; i < size; i++) {
                if (!goesOn(signs[i])) {
                    return i;
                }
            }
            return due > 0 || office.sizes[HEAD] == 0 ? size : NONE;
        }

        private boolean goesOn(int sign) {
            if (due > 0) {
                return takesFigure(sign);
            }
            return sign == BLANK || opensItem(sign);
        }

        private boolean opensItem(int sign) {
            int kind = kindBy(sign);
            int next = kind != NONE ? THUMB : sign == LETTER_HEAD ? HEAD : sign == LETTER_POST ? POST : NONE;
            if (next < sort || next != HEAD && office.sizes[HEAD] == 0 || office.sizes[next] >= MOST_ITEMS[next]) {
                return false;
            }
            if (next == THUMB) {
                office.thumbs[office.sizes[THUMB]][KIND] = kind;
            }
            sort = next;
            due = FIGURES[next];
            office.sizes[next]++;
            return true;
        }

        private static int kindBy(int sign) {
            for (int kind = 0; kind < KINDS; kind++) {
                if (LETTERS[kind] == sign) {
                    return kind;
                }
            }
            return NONE;
        }

        private boolean takesFigure(int sign) {
            int place = FIGURES[sort] - due;
            int figure = sign - FIGURE_0;
            if (figure < LOWEST[sort * 5 + place] || figure > HIGHEST[sort * 5 + place]) {
                return false;
            }
            int item = office.sizes[sort] - 1;
            if (sort == HEAD) {
                office.first[item][place] = figure;
            } else if (sort == THUMB) {
                office.thumbs[item][ERROR + place] = figure;
            } else {
                office.posts[item][place] = figure;
            }
            due--;
            return true;
        }
    }

    /**
     * From the last HEAD back to the first: what the HEADS from one on PAY at most, and in how many ways they are given
     * POSTS, by the set of POSTS that HEADS ahead of it have taken. So no PLAN needs to be gone through by itself.
     */
    private static final class Planner {
        // The POSTS (bits) that each HEAD may be given.
        private final int[] open = new int[HEADS];
        private final int[][] pays = new int[HEADS + 1][1 << POSTS];
        private final int[][] ways = new int[HEADS + 1][1 << POSTS];

        void openByOne(Office office, int t) {
            for (int h = 0; h < office.sizes[HEAD]; h++) {
                open[h] = office.surePosts(t, h, NONE);
            }
        }

        void openByAll(Office office) {
            for (int h = 0; h < office.sizes[HEAD]; h++) {
                open[h] = (1 << office.sizes[POST]) - 1;
                for (int t = 0; t < office.sizes[THUMB]; t++) {
                    open[h] &= office.surePosts(t, h, NONE);
                }
            }
        }

        void reckon(Office office) {
            int heads = office.sizes[HEAD];
            int sets = 1 << office.sizes[POST];
            for (int taken = 0; taken < sets; taken++) {
                pays[heads][taken] = 0;
                ways[heads][taken] = 1;
            }
            for (int h = heads - 1; h >= 0; h--) {
                for (int taken = 0; taken < sets; taken++) {
                    reckonFrom(office, h, taken);
                }
            }
        }

        private void reckonFrom(Office office, int h, int taken) {
            pays[h][taken] = pays[h + 1][taken];
            ways[h][taken] = ways[h + 1][taken];
            for (int p = 0; p < office.sizes[POST]; p++) {
                if (isFree(h, p, taken)) {
                    pays[h][taken] = Math.max(pays[h][taken], payBy(office, h, p, taken));
                    ways[h][taken] += ways[h + 1][taken | 1 << p];
                }
            }
        }

        private boolean isFree(int h, int p, int taken) {
            return (open[h] & ~taken & 1 << p) != 0;
        }

        private int payBy(Office office, int h, int p, int taken) {
            return office.posts[p][PAY] + pays[h + 1][taken | 1 << p];
        }

        int bestPay() {
            return pays[0][0];
        }

        /** The first POST by which nothing is lost, NONE behind all: so the PLAN is the first of alike ones. */
        int bestPost(Office office, int h, int taken) {
            for (int p = 0; p < office.sizes[POST]; p++) {
                if (isFree(h, p, taken) && payBy(office, h, p, taken) == pays[h][taken]) {
                    return p;
                }
            }
            return NONE;
        }
    }
}
