import java.util.Arrays;

/**
 * The gaol on the rock: a yard of up to twelve cells, up to four men chained in a row or a ring,
 * and what can be asked of them. Every call answers by a number; nothing is ever thrown.
 *
 * A STAND is held as one number, a figure to the base of twelve for each MAN, MAN 0 in front:
 * so STANDS compare as the document orders them.
 */
public final class ChainedMen {
    public static final int BAD = -1, FULL = -2, FINDING = -3, STATE = -4, SPENT = -6, NONE = -9;

    private static final int FINE = 0;
    private static final int NOTHING = 1, BEYOND = 2, UNLIKE = 3, NOUGHT = 4, SIZE = 5;
    private static final int MAN = 0, STRONG = 1, ASLEEP = 2, LAME = 3, DEAD = 4, SHORT = 5, KINDS = 6;
    private static final int ROWS = 6, TEXTS = 4, MOST_PLACES = 40, BLANK = 32;
    private static final int MOST_MEN = 4, MOST_LINES = 3, MOST_COLUMNS = 4, MOST_CELLS = 12, WAYS = 4;
    private static final int MOST_STEPS = 60, MOST_KEPT = 3, MOST_QUARRELS = 8;
    private static final int MOST_WANTS = 5, MOST_KEYS = 8, MOST_SEEN = 8, COUNTS = 10;

    /** All numbers of STANDS: twelve to the power of four. */
    private static final int STANDS = 20736;
    /** STANDS in which no two MEN share a CELL: 12 * 11 * 10 * 9. */
    private static final int MOST_STANDS = 11880;
    /** STEPS out of all those: 4 MEN, 34 ways between CELLS side by side, the others on 10 * 9 * 8. */
    private static final int MOST_LEADS = 97920;

    private static final int[] WEIGHT = {1728, 144, 12, 1};
    /** What each KIND is besides itself; a MAN is the root. */
    private static final int[] PARENT = {0, 0, 0, 0, 2, 3};
    /** By which WAYS each KIND can STEP at all, as bits. */
    private static final int[] WAYS_OF = {15, 15, 0, 10, 0, 10};

    private final Shelf rows = new Shelf(ROWS);
    private final Shelf texts = new Shelf(TEXTS);
    private final Reader reader = new Reader();
    private final Course now = new Course();
    private final Course[] kept = new Course[MOST_KEPT];
    private final Rules rules = new Rules();
    private final Search search = new Search(rules);
    private final Wants wants = new Wants(search);
    private final int[] quarrelers = new int[MOST_QUARRELS];
    private final int[] quarreled = new int[MOST_QUARRELS];
    private final int[] founds = new int[SIZE + 1];
    private Yard yard = new Yard();
    private Yard draft = new Yard();
    private int quarrels;
    private int told;
    private int latest;

    public ChainedMen() {
        for (int k = 0; k < MOST_KEPT; k++) {
            kept[k] = new Course();
        }
        changeRules();
    }

    // ---- 1 rows, texts, yards

    public int row(int r, int n) {
        return made(rows, r, n, 0);
    }

    public int lay(int r, int i, int v) {
        int refused = refusedPlace(rows, r, i);
        if (refused != FINE) {
            return refused;
        }
        told = rows.get(r, i);
        rows.set(r, i, v);
        return 1;
    }

    public int at(int r, int i) {
        int refused = refusedPlace(rows, r, i);
        if (refused != FINE) {
            return refused;
        }
        told = rows.get(r, i);
        return 1;
    }

    public int tear(int r) {
        int refused = refusedMissing(rows, r);
        if (refused != FINE) {
            return refused;
        }
        rows.drop(r);
        return 1;
    }

    public int copy(int r, int i, int to, int j, int n) {
        if (!rows.knows(r) || !rows.knows(to)) {
            return BAD;
        }
        if (n < 0) {
            return found(SIZE);
        }
        if (!rows.holds(r) || !rows.holds(to)) {
            return found(NOTHING);
        }
        if (!rows.has(r, i, n) || !rows.has(to, j, n)) {
            return found(BEYOND);
        }
        rows.move(r, i, to, j, n);
        return 1;
    }

    public int mean(int r) {
        int refused = refusedMissing(rows, r);
        if (refused != FINE) {
            return refused;
        }
        int n = rows.size(r);
        if (n <= 0) {
            return found(NOUGHT);
        }
        long sum = 0;
        for (int i = 0; i < n; i++) {
            sum += rows.get(r, i);
        }
        told = (int) (sum / n);
        return 1;
    }

    public int text(int t, int n) {
        return made(texts, t, n, BLANK);
    }

    public int put(int t, int i, int v) {
        int refused = refusedPlace(texts, t, i);
        if (refused != FINE) {
            return refused;
        }
        int was = texts.get(t, i);
        texts.set(t, i, (byte) v);
        return was + 1000;
    }

    public int fault(int t) {
        int refused = refusedMissing(texts, t);
        return refused != FINE ? refused : reader.read(texts, t, draft);
    }

    public int yard(int t) {
        int refused = refusedMissing(texts, t);
        if (refused != FINE) {
            return refused;
        }
        if (reader.read(texts, t, draft) != NONE) {
            return STATE;
        }
        Yard old = yard;
        yard = draft;
        draft = old;
        now.restart(yard.firstStand());
        for (int k = 0; k < MOST_KEPT; k++) {
            kept[k].isKept = false;
        }
        quarrels = 0;
        changeRules();
        return yard.men;
    }

    public int man(int i, int what) {
        if (!isMan(i) || what < 0 || what > 3) {
            return BAD;
        }
        told = ofMan(i, what);
        return 1;
    }

    public int chain(int k, int what) {
        if (!isChain(k) || what < 0 || what > 3) {
            return BAD;
        }
        told = ofChain(k, what);
        return 1;
    }

    public int mark(int i, int kind) {
        if (!isMan(i) || kind <= MAN || kind >= KINDS) {
            return BAD;
        }
        if (!yard.is(i, kind)) {
            return found(UNLIKE);
        }
        switch (kind) {
            case STRONG:
                return chainedTo(i, ASLEEP);
            case ASLEEP:
                return chainedTo(i, STRONG);
            case LAME:
                return Integer.bitCount(waysOpenTo(i));
            case DEAD:
                return fartherThanTwo(i);
            default:
                return leastReach(i);
        }
    }

    public int tide(int v) {
        if (v < 0 || v > MOST_LINES) {
            return BAD;
        }
        if (yard.cells == 0) {
            return STATE;
        }
        int was = now.tide;
        now.tide = v;
        changeRules();
        return was;
    }

    public int open(int k, int is) {
        if (!isChain(k) || is < 0 || is > 1) {
            return BAD;
        }
        if (is == 0 && ofChain(k, 2) > ofChain(k, 1)) {
            return STATE;
        }
        int was = now.open >> k & 1;
        now.open = (now.open & ~(1 << k)) | is << k;
        changeRules();
        return was;
    }

    // ---- 2 steps

    public int step(int i, int way) {
        if (!isMan(i) || way < 0 || way >= WAYS) {
            return BAD;
        }
        int then = rules.after(now.stand, i, way);
        if (then == NONE) {
            return STATE;
        }
        if (now.steps >= MOST_STEPS) {
            return FULL;
        }
        now.go(stepOf(i, way), then);
        return cellOf(now.stand, i);
    }

    public int can(int i) {
        return isMan(i) ? waysOpenTo(i) : BAD;
    }

    public int undo(int n) {
        if (n < 0 || n > now.steps) {
            return BAD;
        }
        int undone = now.steps - n;
        now.goBack(n);
        return undone;
    }

    public int who(int cell) {
        if (!isCell(cell)) {
            return BAD;
        }
        for (int i = 0; i < yard.men; i++) {
            if (cellOf(now.stand, i) == cell) {
                return i;
            }
        }
        return NONE;
    }

    public int keep(int k) {
        if (k < 0 || k >= MOST_KEPT) {
            return BAD;
        }
        if (yard.men == 0) {
            return STATE;
        }
        kept[k].become(now);
        kept[k].isKept = true;
        return now.steps;
    }

    public int on(int k) {
        if (k < 0 || k >= MOST_KEPT) {
            return BAD;
        }
        if (!kept[k].isKept) {
            return found(NOTHING);
        }
        now.become(kept[k]);
        changeRules();
        return now.steps;
    }

    // ---- 3 where to (aside)

    public int near(int r) {
        int refused = refusedAim(r, r);
        if (refused != FINE) {
            return refused;
        }
        int place = firstLike(r);
        if (place == NONE) {
            return NONE;
        }
        told = search.trace(place, rows, NONE);
        return search.depth(place);
    }

    public int path(int r, int to) {
        int refused = refusedAim(r, to);
        if (refused != FINE) {
            return refused;
        }
        int place = firstLike(r);
        if (place == NONE || search.depth(place) > MOST_PLACES) {
            return NONE;
        }
        int steps = search.depth(place);
        rows.make(to, steps, 0);
        search.trace(place, rows, to);
        return steps;
    }

    public int reach() {
        if (yard.men == 0) {
            return STATE;
        }
        search.begin(now.stand);
        int many = 0;
        for (int p = 0; p < MOST_STANDS && search.finds(p); p++) {
            many++;
        }
        told = search.depth(many - 1);
        return many;
    }

    public int where(int i) {
        if (!isMan(i)) {
            return BAD;
        }
        search.begin(now.stand);
        int cells = 0;
        for (int p = 0; p < MOST_STANDS && search.finds(p); p++) {
            int bit = 1 << cellOf(search.stand(p), i);
            if ((cells & bit) == 0) {
                cells |= bit;
                told = search.depth(p);
            }
        }
        return cells;
    }

    public int meet(int i, int j) {
        if (!isMan(i) || !isMan(j) || i == j) {
            return BAD;
        }
        search.begin(now.stand);
        for (int p = 0; p < MOST_STANDS && search.finds(p); p++) {
            if (apart(search.stand(p), i, j) == 1) {
                return search.depth(p);
            }
        }
        return NONE;
    }

    public int window(int x) {
        if (x < 0 || x >= yard.width) {
            return BAD;
        }
        if (yard.men == 0) {
            return STATE;
        }
        search.begin(now.stand);
        for (int p = 0; p < MOST_STANDS && search.finds(p); p++) {
            if (allInColumn(search.stand(p), x)) {
                return search.depth(p);
            }
        }
        return NONE;
    }

    public int comes(int r, int q) {
        if (!rows.knows(r) || !rows.knows(q)) {
            return BAD;
        }
        if (yard.men == 0) {
            return STATE;
        }
        if (!rows.holds(r) || !rows.holds(q)) {
            return found(NOTHING);
        }
        if (rows.size(r) != yard.men || rows.size(q) != yard.men) {
            return found(SIZE);
        }
        int from = soundStand(r);
        int to = soundStand(q);
        if (from == NONE || to == NONE) {
            return found(UNLIKE);
        }
        search.begin(from);
        for (int p = 0; p < MOST_STANDS && search.finds(p); p++) {
            if (search.stand(p) == to) {
                return 1;
            }
        }
        return 0;
    }

    // ---- 4 wants

    public int fetch(int r) {
        int refused = refusedWants(r, r);
        if (refused != FINE) {
            return refused;
        }
        wants.take(rows, r);
        int stand = now.stand;
        int steps = 0;
        int met = 0;
        for (; met < wants.many; met++) {
            int place = search.nearest(stand, wants.men[met], wants.cells[met]);
            if (place == NONE) {
                break;
            }
            steps += search.depth(place);
            stand = search.stand(place);
        }
        told = steps;
        return met;
    }

    public int order(int r, int to) {
        int refused = refusedWants(r, to);
        if (refused != FINE) {
            return refused;
        }
        wants.take(rows, r);
        wants.arrange(0, now.stand, 0, wants.all(), wants.all());
        rows.make(to, wants.many, 0);
        for (int n = 0; n < wants.many; n++) {
            rows.set(to, n, wants.best[n]);
        }
        return wants.bestMet;
    }

    // ---- 5 keys, files, steps judged

    public int keys(int r) {
        if (!rows.knows(r)) {
            return BAD;
        }
        int refused = yard.men == 0 ? STATE : refusedKeys(r);
        return refused != FINE ? refused : fewestKeys(r, closedChains());
    }

    public int free(int i, int r) {
        if (!isMan(i) || !rows.knows(r)) {
            return BAD;
        }
        int refused = refusedKeys(r);
        return refused != FINE ? refused : fewestKeys(r, closedChains() & yard.chainsOf(i));
    }

    public int filed(int r) {
        int refused = refusedWithMen(r, r);
        if (refused != FINE) {
            return refused;
        }
        int size = rows.size(r);
        if (size % yard.men != 0 || size / yard.men > MOST_SEEN) {
            return found(SIZE);
        }
        for (int p = 0; p < size; p++) {
            if (!isCell(rows.get(r, p))) {
                return found(UNLIKE);
            }
        }
        int torn = 0;
        for (int n = 0; n < size / yard.men; n++) {
            torn |= yard.tooFar(standFrom(r, n * yard.men), now.open);
        }
        told = torn == 0 ? 1 : 0;
        return couldBeFiled(torn);
    }

    public int judge(int r) {
        int refused = refusedWithMen(r, r);
        if (refused != FINE) {
            return refused;
        }
        int size = rows.size(r);
        for (int n = 0; n < size; n++) {
            if (!isStep(rows.get(r, n))) {
                return found(UNLIKE);
            }
        }
        int stand = now.stand;
        int done = 0;
        for (; done < size; done++) {
            int step = rows.get(r, done);
            int then = rules.after(stand, step / 10, step % 10);
            if (then == NONE) {
                break;
            }
            stand = then;
        }
        told = stretch(stand);
        return done;
    }

    // ---- 6 quarrels, lots

    public int quarrel(int i, int j) {
        if (!isMan(i) || !isMan(j) || i == j) {
            return BAD;
        }
        if (quarrels >= MOST_QUARRELS) {
            return FULL;
        }
        quarrelers[quarrels] = i;
        quarreled[quarrels] = j;
        quarrels++;
        return quarrels - 1;
    }

    public int peace(int n) {
        if (n < 0 || n > quarrels) {
            return BAD;
        }
        int over = quarrels - n;
        quarrels = n;
        return over;
    }

    public int easter(int r) {
        if (!rows.knows(r)) {
            return BAD;
        }
        int men = yard.men;
        if (men == 0) {
            return STATE;
        }
        int best = 0;
        int fewest = MOST_QUARRELS + 1;
        for (int ordered = 0; ordered < 1 << 2 * men; ordered++) {
            int many = isOrderOfMen(ordered) ? quarrelsIn(ordered) : fewest;
            if (many < fewest) {
                fewest = many;
                best = ordered;
            }
        }
        rows.make(r, men, 0);
        for (int p = 0; p < men; p++) {
            rows.set(r, p, manAt(best, p));
        }
        return fewest;
    }

    public int lots(int n, int seed) {
        if (n < 1 || n > MOST_STEPS || seed < 1 || seed > 2147483646) {
            return BAD;
        }
        if (yard.men == 0) {
            return STATE;
        }
        if (now.steps + n > MOST_STEPS) {
            return FULL;
        }
        int ahead = now.steps;
        long lot = seed;
        for (int drawn = 0; drawn < n; drawn++) {
            lot = lot * 48271 % 2147483647;
            int i = (int) (lot % yard.men);
            int way = (int) (lot / 64 % WAYS);
            int then = rules.after(now.stand, i, way);
            if (then != NONE) {
                now.go(stepOf(i, way), then);
            }
        }
        return now.steps - ahead;
    }

    // ---- 7 what is told

    public int asked() {
        return told;
    }

    public long upper() {
        return yard.men == 0 ? 0 : possibleSteps() / commonPart();
    }

    public long lower() {
        return yard.men == 0 ? 1 : WAYS * yard.men / commonPart();
    }

    public int count(int what) {
        switch (what) {
            case 0:
                return yard.men;
            case 1:
                return yard.cells;
            case 2:
                return now.steps;
            case 3:
                return yard.chains;
            case 4:
                return Integer.bitCount(now.open);
            case 5:
                return sleepers();
            case 6:
                return rows.held();
            case 7:
                return texts.held();
            case 8:
                return quarrels;
            case 9:
                return yardsKept();
            default:
                return BAD;
        }
    }

    public int finding() {
        return latest;
    }

    public int findings(int f) {
        return f < NOTHING || f > SIZE ? BAD : founds[f];
    }

    public long digest() {
        long h = 17;
        for (int what = 0; what < COUNTS; what++) {
            h = 31 * h + count(what);
        }
        h = 31 * h + now.tide;
        for (int cell = 0; cell < yard.cells; cell++) {
            h = 31 * h + (yard.isWall(cell) ? 1 : 0);
        }
        for (int n = 0; n < 4 * yard.men; n++) {
            h = 31 * h + ofMan(n / 4, n % 4);
        }
        for (int n = 0; n < 4 * yard.chains; n++) {
            h = 31 * h + ofChain(n / 4, n % 4);
        }
        for (int n = 0; n < quarrels; n++) {
            h = 31 * (31 * h + quarrelers[n]) + quarreled[n];
        }
        for (int n = 0; n < now.steps; n++) {
            h = 31 * h + now.taken[n];
        }
        for (int k = 0; k < MOST_KEPT; k++) {
            h = 31 * h + (kept[k].isKept ? kept[k].steps : -1);
        }
        return texts.mixedInto(rows.mixedInto(h));
    }

    // ---- numbers that are such, and what is refused

    private boolean isMan(int i) {
        return i >= 0 && i < yard.men;
    }

    private boolean isChain(int k) {
        return k >= 0 && k < yard.chains;
    }

    private boolean isCell(int cell) {
        return cell >= 0 && cell < yard.cells;
    }

    private boolean isStep(int v) {
        return v >= 0 && isMan(v / 10) && v % 10 < WAYS;
    }

    private int found(int finding) {
        latest = finding;
        founds[finding]++;
        return FINDING;
    }

    private int made(Shelf shelf, int r, int n, int v) {
        if (!shelf.knows(r) || n > MOST_PLACES) {
            return BAD;
        }
        if (n < 0) {
            return found(SIZE);
        }
        shelf.make(r, n, v);
        return n;
    }

    private int refusedMissing(Shelf shelf, int r) {
        if (!shelf.knows(r)) {
            return BAD;
        }
        return shelf.holds(r) ? FINE : found(NOTHING);
    }

    private int refusedPlace(Shelf shelf, int r, int i) {
        int refused = refusedMissing(shelf, r);
        if (refused != FINE) {
            return refused;
        }
        return shelf.has(r, i, 1) ? FINE : found(BEYOND);
    }

    /** What refuses a ROW that is read with MEN in mind, and one to which the answer comes. */
    private int refusedWithMen(int r, int to) {
        if (!rows.knows(r) || !rows.knows(to)) {
            return BAD;
        }
        if (yard.men == 0) {
            return STATE;
        }
        return rows.holds(r) ? FINE : found(NOTHING);
    }

    private int refusedAim(int r, int to) {
        int refused = refusedWithMen(r, to);
        if (refused != FINE) {
            return refused;
        }
        if (rows.size(r) != yard.men) {
            return found(SIZE);
        }
        for (int i = 0; i < yard.men; i++) {
            if (rows.get(r, i) != NONE && !isCell(rows.get(r, i))) {
                return found(UNLIKE);
            }
        }
        return FINE;
    }

    private int refusedWants(int r, int to) {
        int refused = refusedWithMen(r, to);
        if (refused != FINE) {
            return refused;
        }
        if (rows.size(r) > MOST_WANTS) {
            return found(SIZE);
        }
        for (int n = 0; n < rows.size(r); n++) {
            int want = rows.get(r, n);
            if (want < 0 || !isMan(want / 100) || !isCell(want % 100)) {
                return found(UNLIKE);
            }
        }
        return FINE;
    }

    private int refusedKeys(int r) {
        if (!rows.holds(r)) {
            return found(NOTHING);
        }
        if (rows.size(r) > MOST_KEYS) {
            return found(SIZE);
        }
        for (int n = 0; n < rows.size(r); n++) {
            int key = rows.get(r, n);
            if (key < 0 || key >= 1 << yard.chains) {
                return found(UNLIKE);
            }
        }
        return FINE;
    }

    // ---- what stands in the yard

    private static int cellOf(int stand, int i) {
        return i < 0 || i >= MOST_MEN ? NONE : stand / WEIGHT[i] % MOST_CELLS;
    }

    private static int stepOf(int i, int way) {
        return 10 * i + way;
    }

    /** Whatever was found by STEPS before no longer holds. */
    private void changeRules() {
        rules.follow(yard, now.tide, now.open);
        search.forget();
    }

    private int apart(int stand, int i, int j) {
        return yard.distance(cellOf(stand, i), cellOf(stand, j));
    }

    private int ofMan(int i, int what) {
        switch (what) {
            case 0:
                return yard.kinds[i];
            case 1:
                return cellOf(now.stand, i);
            case 2:
                return Integer.bitCount(closedChains() & yard.chainsOf(i));
            default:
                return now.stepsOf(i);
        }
    }

    private int ofChain(int k, int what) {
        switch (what) {
            case 0:
                return yard.lengths[k];
            case 1:
                return yard.reaches[k];
            case 2:
                return apart(now.stand, k, yard.secondEnd(k));
            default:
                return now.open >> k & 1;
        }
    }

    private int closedChains() {
        return ((1 << yard.chains) - 1) & ~now.open;
    }

    private int chainedTo(int i, int kind) {
        int many = 0;
        for (int k = 0; k < yard.chains; k++) {
            int other = yard.partners[k * MOST_MEN + i];
            if ((now.open >> k & 1) == 0 && other != NONE && yard.kinds[other] == kind) {
                many++;
            }
        }
        return many;
    }

    private int waysOpenTo(int i) {
        int ways = 0;
        for (int way = 0; way < WAYS; way++) {
            if (rules.after(now.stand, i, way) != NONE) {
                ways |= 1 << way;
            }
        }
        return ways;
    }

    private int fartherThanTwo(int i) {
        int many = 0;
        for (int j = 0; j < yard.men; j++) {
            if (apart(now.stand, i, j) > 2) {
                many++;
            }
        }
        return many;
    }

    private int leastReach(int i) {
        int least = NONE;
        for (int k = 0; k < yard.chains; k++) {
            if (yard.partners[k * MOST_MEN + i] != NONE && (least == NONE || yard.reaches[k] < least)) {
                least = yard.reaches[k];
            }
        }
        return least;
    }

    private int stretch(int stand) {
        int together = 0;
        for (int k = 0; k < yard.chains; k++) {
            together += apart(stand, k, yard.secondEnd(k));
        }
        return together;
    }

    private int sleepers() {
        int many = 0;
        for (int i = 0; i < yard.men; i++) {
            if (yard.is(i, ASLEEP)) {
                many++;
            }
        }
        return many;
    }

    private int yardsKept() {
        int many = 0;
        for (int k = 0; k < MOST_KEPT; k++) {
            if (kept[k].isKept) {
                many++;
            }
        }
        return many;
    }

    private int possibleSteps() {
        int many = 0;
        for (int i = 0; i < yard.men; i++) {
            many += Integer.bitCount(waysOpenTo(i));
        }
        return many;
    }

    /** The greatest number that divides both possible STEPS and all WAYS of all MEN. */
    private int commonPart() {
        int all = WAYS * yard.men;
        int some = possibleSteps();
        for (int part = all; part > 1; part--) {
            if (all % part == 0 && some % part == 0) {
                return part;
            }
        }
        return 1;
    }

    // ---- what is looked for

    /** Where the search comes first to a STAND as a ROW tells; NONE: never. */
    private int firstLike(int r) {
        search.begin(now.stand);
        for (int p = 0; p < MOST_STANDS && search.finds(p); p++) {
            if (isLike(search.stand(p), r)) {
                return p;
            }
        }
        return NONE;
    }

    private boolean isLike(int stand, int r) {
        for (int i = 0; i < yard.men; i++) {
            int cell = rows.get(r, i);
            if (cell != NONE && cell != cellOf(stand, i)) {
                return false;
            }
        }
        return true;
    }

    private boolean allInColumn(int stand, int x) {
        for (int i = 0; i < yard.men; i++) {
            if (yard.columnOf(cellOf(stand, i)) != x) {
                return false;
            }
        }
        return true;
    }

    /** The STAND told by a ROW from a place on; its places are CELLS. */
    private int standFrom(int r, int place) {
        int stand = 0;
        for (int i = 0; i < yard.men; i++) {
            stand += rows.get(r, place + i) * WEIGHT[i];
        }
        return stand;
    }

    /** The STAND told by a ROW, if MEN can stand so; else NONE. */
    private int soundStand(int r) {
        int taken = 0;
        for (int i = 0; i < yard.men; i++) {
            int cell = rows.get(r, i);
            if (!isCell(cell) || yard.isWall(cell) || (taken >> cell & 1) == 1) {
                return NONE;
            }
            taken |= 1 << cell;
        }
        int stand = standFrom(r, 0);
        return yard.tooFar(stand, now.open) == 0 ? stand : NONE;
    }

    private int fewestKeys(int r, int due) {
        int best = NONE;
        for (int set = 0; set < 1 << rows.size(r); set++) {
            boolean fewer = best == NONE || Integer.bitCount(set) < Integer.bitCount(best);
            if (fewer && (opened(r, set) & due) == due) {
                best = set;
            }
        }
        if (best == NONE) {
            return NONE;
        }
        told = best;
        return Integer.bitCount(best);
    }

    private int opened(int r, int set) {
        int chains = 0;
        for (int n = 0; n < rows.size(r); n++) {
            if ((set >> n & 1) == 1) {
                chains |= rows.get(r, n);
            }
        }
        return chains;
    }

    private int couldBeFiled(int torn) {
        int could = 0;
        for (int k = 0; k < yard.chains; k++) {
            if ((torn & ~(1 << k)) == 0) {
                could |= 1 << k;
            }
        }
        return could & closedChains();
    }

    /** Who comes at a place of an order of MEN: two bits each, the first one in front. */
    private int manAt(int ordered, int place) {
        return ordered >> 2 * (yard.men - 1 - place) & 3;
    }

    private boolean isOrderOfMen(int ordered) {
        int seen = 0;
        for (int p = 0; p < yard.men; p++) {
            seen |= 1 << manAt(ordered, p);
        }
        return seen == (1 << yard.men) - 1;
    }

    private int quarrelsIn(int ordered) {
        int many = 0;
        for (int n = 0; n < quarrels; n++) {
            for (int k = 0; k < yard.chains; k++) {
                int one = manAt(ordered, k);
                int other = manAt(ordered, yard.secondEnd(k));
                boolean same = one == quarrelers[n] && other == quarreled[n];
                if (same || one == quarreled[n] && other == quarrelers[n]) {
                    many++;
                }
            }
        }
        return many;
    }

    /** ROWS or TEXTS: each there with its places, or missing. */
    private static final class Shelf {
        private final int[][] places;
        private final int[] sizes;

        Shelf(int many) {
            places = new int[many][MOST_PLACES];
            sizes = new int[many];
            Arrays.fill(sizes, -1);
        }

        boolean knows(int r) {
            return r >= 0 && r < sizes.length;
        }

        boolean holds(int r) {
            return r >= 0 && r < sizes.length && sizes[r] >= 0;
        }

        /** Whether there are n places from i on. */
        boolean has(int r, int i, int n) {
            return holds(r) && i >= 0 && n >= 0 && n <= sizes[r] && i <= sizes[r] - n;
        }

        int size(int r) {
            return knows(r) ? sizes[r] : -1;
        }

        void make(int r, int n, int v) {
            if (knows(r) && n >= 0 && n <= MOST_PLACES) {
                sizes[r] = n;
                Arrays.fill(places[r], v);
            }
        }

        void drop(int r) {
            if (knows(r)) {
                sizes[r] = -1;
            }
        }

        int get(int r, int i) {
            return has(r, i, 1) ? places[r][i] : 0;
        }

        void set(int r, int i, int v) {
            if (has(r, i, 1)) {
                places[r][i] = v;
            }
        }

        void move(int r, int i, int to, int j, int n) {
            if (has(r, i, n) && has(to, j, n)) {
                System.arraycopy(places[r], i, places[to], j, n);
            }
        }

        int held() {
            int many = 0;
            for (int r = 0; r < sizes.length; r++) {
                if (sizes[r] >= 0) {
                    many++;
                }
            }
            return many;
        }

        long mixedInto(long before) {
            long h = before;
            for (int r = 0; r < sizes.length; r++) {
                h = 31 * h + sizes[r];
                for (int i = 0; i < sizes[r]; i++) {
                    h = 31 * h + places[r][i];
                }
            }
            return h;
        }
    }

    /** What a YARD's TEXT tells and what never changes in it. */
    private static final class Yard {
        int width;
        int lines;
        int cells;
        int walls;
        int men;
        int chains;
        boolean ring;
        final int[] kinds = new int[MOST_MEN];
        final int[] starts = new int[MOST_MEN];
        final int[] lengths = new int[MOST_MEN];
        final int[] reaches = new int[MOST_MEN];
        /** How far each CELL is from each other one. */
        final int[] far = new int[MOST_CELLS * MOST_CELLS];
        /** The CELL next to each one by each WAY; NONE: no CELL there, or a wall. */
        final int[] next = new int[MOST_CELLS * WAYS];
        /** Who is at the other end of each CHAIN for each MAN; NONE: it is none of his. */
        final int[] partners = new int[MOST_MEN * MOST_MEN];

        void clear() {
            width = 0;
            lines = 0;
            cells = 0;
            walls = 0;
            men = 0;
            chains = 0;
            ring = false;
        }

        int columnOf(int cell) {
            return width > 0 ? cell % width : 0;
        }

        int lineOf(int cell) {
            return width > 0 ? cell / width : 0;
        }

        boolean isWall(int cell) {
            return (walls >> cell & 1) == 1;
        }

        boolean is(int i, int kind) {
            int own = kinds[i];
            for (int up = 0; up < KINDS; up++) {
                if (own == kind) {
                    return true;
                }
                own = PARENT[own];
            }
            return false;
        }

        int secondEnd(int k) {
            return k + 1 < men ? k + 1 : 0;
        }

        int chainsOf(int i) {
            int his = 0;
            for (int k = 0; k < chains; k++) {
                if (partners[k * MOST_MEN + i] != NONE) {
                    his |= 1 << k;
                }
            }
            return his;
        }

        int distance(int a, int b) {
            return a < 0 || b < 0 || a >= MOST_CELLS || b >= MOST_CELLS ? 0 : far[a * MOST_CELLS + b];
        }

        int firstStand() {
            int stand = 0;
            for (int i = 0; i < men; i++) {
                stand += starts[i] * WEIGHT[i];
            }
            return stand;
        }

        /** CHAINS that are not KEPT in a STAND, as bits; decodes for itself, for it is asked most. */
        int tooFar(int stand, int open) {
            int torn = 0;
            for (int k = 0; k < chains; k++) {
                int second = k + 1 < men ? k + 1 : 0;
                int a = stand / WEIGHT[k] % MOST_CELLS;
                int b = stand / WEIGHT[second] % MOST_CELLS;
                if ((open >> k & 1) == 0 && far[a * MOST_CELLS + b] > reaches[k]) {
                    torn |= 1 << k;
                }
            }
            return torn;
        }

        /** Makes the tables, once all CELLS, MEN and the FORM are known. */
        void layOut() {
            chains = ring && men >= 3 ? men : Math.max(men - 1, 0);
            Arrays.fill(partners, NONE);
            for (int k = 0; k < chains; k++) {
                partners[k * MOST_MEN + k] = secondEnd(k);
                partners[k * MOST_MEN + secondEnd(k)] = k;
            }
            for (int a = 0; a < cells; a++) {
                for (int b = 0; b < cells; b++) {
                    int columns = Math.abs(columnOf(a) - columnOf(b));
                    far[a * MOST_CELLS + b] = columns + Math.abs(lineOf(a) - lineOf(b));
                }
                for (int way = 0; way < WAYS; way++) {
                    next[a * WAYS + way] = neighbour(a, way);
                }
            }
        }

        private int neighbour(int cell, int way) {
            int column = columnOf(cell) + (way == 1 ? 1 : way == 3 ? -1 : 0);
            int line = lineOf(cell) + (way == 2 ? 1 : way == 0 ? -1 : 0);
            if (column < 0 || column >= width || line < 0 || line >= lines) {
                return NONE;
            }
            int there = line * width + column;
            return isWall(there) ? NONE : there;
        }

        void giveLength(int k, int length) {
            int reach = length;
            for (int end = 0; end < 2; end++) {
                int kind = kinds[end == 0 ? k : secondEnd(k)];
                reach += kind == STRONG ? 1 : kind == SHORT ? -1 : 0;
            }
            lengths[k] = length;
            reaches[k] = Math.max(reach, 1);
        }

        boolean keepsAtFirst(int k) {
            return distance(starts[k], starts[secondEnd(k)]) <= reaches[k];
        }
    }

    /** Reads a TEXT as a YARD, sign by sign; where it stops is the FAULT. */
    private static final class Reader {
        private Shelf texts;
        private int text;
        private int size;
        private int place;
        private Yard yard;

        /** The FAULT of a TEXT; NONE: there is none, and the YARD is as it tells. */
        int read(Shelf from, int t, Yard into) {
            texts = from;
            text = t;
            size = from.size(t);
            place = 0;
            yard = into;
            yard.clear();
            skipBlanks();
            if (!readCells() || !readForm() || !readChains()) {
                return place;
            }
            skipBlanks();
            return place < size ? place : NONE;
        }

        private int sign() {
            return texts.get(text, place);
        }

        private void skipBlanks() {
            for (; place < size; place++) {
                if (sign() != BLANK) {
                    return;
                }
            }
        }

        private boolean readCells() {
            int column = 0;
            for (; place < size; place++) {
                int sign = sign();
                if (sign != '/' && sign != '=') {
                    if (column >= (yard.lines == 0 ? MOST_COLUMNS : yard.width) || !addCell(sign)) {
                        return false;
                    }
                    column++;
                    continue;
                }
                if (!endLine(column) || sign == '/' && yard.lines == MOST_LINES) {
                    return false;
                }
                column = 0;
                if (sign == '=') {
                    place++;
                    return true;
                }
            }
            return false;
        }

        private boolean endLine(int columns) {
            if (columns == 0 || yard.lines > 0 && columns != yard.width) {
                return false;
            }
            yard.width = columns;
            yard.lines++;
            return true;
        }

        private boolean addCell(int sign) {
            int kind = kindBySign(sign);
            if (kind == NONE && sign != '.' && sign != '#' || kind != NONE && yard.men == MOST_MEN) {
                return false;
            }
            if (sign == '#') {
                yard.walls |= 1 << yard.cells;
            }
            if (kind != NONE) {
                yard.kinds[yard.men] = kind;
                yard.starts[yard.men] = yard.cells;
                yard.men++;
            }
            yard.cells++;
            return true;
        }

        private static int kindBySign(int sign) {
            switch (sign) {
                case 'm':
                    return MAN;
                case 't':
                    return STRONG;
                case 'a':
                    return ASLEEP;
                case 'l':
                    return LAME;
                case 'd':
                    return DEAD;
                case 's':
                    return SHORT;
                default:
                    return NONE;
            }
        }

        private boolean readForm() {
            if (place >= size || sign() != 'w' && sign() != 'r') {
                return false;
            }
            yard.ring = sign() == 'r';
            yard.layOut();
            place++;
            return true;
        }

        private boolean readChains() {
            for (int k = 0; k < yard.chains; k++) {
                if (place >= size || sign() < '1' || sign() > '9') {
                    return false;
                }
                yard.giveLength(k, sign() - '0');
                if (!yard.keepsAtFirst(k)) {
                    return false;
                }
                place++;
            }
            return true;
        }
    }

    /** Where all are, how they came there, the TIDE, OPEN CHAINS: what is kept and gone on from. */
    private static final class Course {
        boolean isKept;
        int stand;
        int tide;
        int open;
        int steps;
        final int[] taken = new int[MOST_STEPS];
        /** The STAND ahead of each STEP. */
        final int[] before = new int[MOST_STEPS];

        void restart(int first) {
            stand = first;
            tide = 0;
            open = 0;
            steps = 0;
        }

        void become(Course other) {
            stand = other.stand;
            tide = other.tide;
            open = other.open;
            steps = other.steps;
            System.arraycopy(other.taken, 0, taken, 0, MOST_STEPS);
            System.arraycopy(other.before, 0, before, 0, MOST_STEPS);
        }

        void go(int step, int then) {
            if (steps < MOST_STEPS) {
                taken[steps] = step;
                before[steps] = stand;
                steps++;
                stand = then;
            }
        }

        void goBack(int n) {
            if (n >= 0 && n < steps) {
                stand = before[n];
                steps = n;
            }
        }

        int stepsOf(int i) {
            int many = 0;
            for (int n = 0; n < steps; n++) {
                if (taken[n] / 10 == i) {
                    many++;
                }
            }
            return many;
        }
    }

    /** What a STEP does, by the YARD, the WATER and the OPEN CHAINS. */
    private static final class Rules {
        private Yard yard;
        private int water;
        private int open;

        void follow(Yard in, int tide, int opened) {
            yard = in;
            open = opened;
            water = 0;
            for (int cell = 0; cell < in.cells; cell++) {
                if (in.lineOf(cell) >= in.lines - tide) {
                    water |= 1 << cell;
                }
            }
        }

        /** The STAND to which a MAN's STEP leads; NONE: he can't. */
        int after(int stand, int i, int way) {
            if (i < 0 || i >= yard.men || way < 0 || way >= WAYS || (WAYS_OF[yard.kinds[i]] >> way & 1) == 0) {
                return NONE;
            }
            int from = cellOf(stand, i);
            int to = yard.next[from * WAYS + way];
            if (to == NONE || ((water | taken(stand)) >> to & 1) == 1) {
                return NONE;
            }
            int then = stand + (to - from) * WEIGHT[i];
            int torn = yard.tooFar(then, open);
            if (torn != 0 && yard.kinds[i] == STRONG) {
                then = takingAlong(then, i, from, torn);
                torn = then == NONE ? torn : yard.tooFar(then, open);
            }
            return torn == 0 ? then : NONE;
        }

        private int taken(int stand) {
            int cells = 0;
            for (int i = 0; i < yard.men; i++) {
                cells |= 1 << stand / WEIGHT[i] % MOST_CELLS;
            }
            return cells;
        }

        /** The STAND with the one sleeper on the CELL left whom a STRONG one has to drag; NONE: he can't. */
        private int takingAlong(int then, int i, int left, int torn) {
            int sleeper = NONE;
            for (int k = 0; k < yard.chains; k++) {
                int other = yard.partners[k * MOST_MEN + i];
                if ((torn >> k & 1) == 1 && other != NONE && yard.kinds[other] == ASLEEP) {
                    if (sleeper != NONE || (water >> left & 1) == 1) {
                        return NONE;
                    }
                    sleeper = other;
                }
            }
            if (sleeper == NONE) {
                return NONE;
            }
            int cell = then / WEIGHT[sleeper] % MOST_CELLS;
            return then + (left - cell) * WEIGHT[sleeper];
        }
    }

    /**
     * STANDS by how few STEPS lead there, those of alike numbers by their first STEPS: the row
     * grows only as far as it is looked at, and stays while the same start is asked again.
     */
    private static final class Search {
        private final Rules rules;
        private final int[] stands = new int[MOST_STANDS];
        private final int[] depths = new int[MOST_STANDS];
        private final int[] origins = new int[MOST_STANDS];
        private final int[] steps = new int[MOST_STANDS];
        private int head;
        private int tail;
        /** In which turn each STAND was seen last: so nothing has to be wiped between searches. */
        private final int[] seen = new int[STANDS];
        private int turn;
        /** Of each STAND 32 times where its leads begin and how many they are; 0: not known. */
        private final int[] begins = new int[STANDS];
        /** 64 times the STAND to which a STEP leads and the STEP; place 0 is left free. */
        private final int[] leads = new int[MOST_LEADS + 1];
        private int used;

        Search(Rules by) {
            rules = by;
        }

        void forget() {
            used = 0;
            tail = 0;
        }

        void begin(int stand) {
            if (used == 0) {
                Arrays.fill(begins, 0);
                used = 1;
            }
            if (tail > 0 && stands[0] == stand) {
                return;
            }
            turn++;
            head = 0;
            tail = 0;
            arrive(stand, NONE, NONE, 0);
        }

        /** Whether there is a STAND at a place of the row. */
        boolean finds(int place) {
            for (; tail <= place && head < tail && head < MOST_STANDS; head++) {
                expand(head);
            }
            return place >= 0 && place < tail;
        }

        int stand(int place) {
            return place >= 0 && place < tail ? stands[place] : NONE;
        }

        int depth(int place) {
            return place >= 0 && place < tail ? depths[place] : NONE;
        }

        /** Lays the STEPS to a place into a ROW that has as many places (if any): the first one. */
        int trace(int place, Shelf rows, int to) {
            int first = NONE;
            int p = place;
            for (int n = depth(place) - 1; n >= 0; n--) {
                first = steps[p];
                rows.set(to, n, first);
                p = origins[p];
            }
            return first;
        }

        /** Where a MAN is on a CELL by the fewest STEPS, of alike STANDS the first; NONE: never. */
        int nearest(int from, int i, int cell) {
            begin(from);
            int best = NONE;
            for (int p = 0; p < MOST_STANDS && finds(p); p++) {
                if (best != NONE && depths[p] > depths[best]) {
                    break;
                }
                boolean there = stands[p] / WEIGHT[i] % MOST_CELLS == cell;
                if (there && (best == NONE || stands[p] < stands[best])) {
                    best = p;
                }
            }
            return best;
        }

        private void expand(int place) {
            int stand = stands[place];
            if (begins[stand] == 0) {
                learn(stand);
            }
            int begin = begins[stand] / 32;
            int end = begin + begins[stand] % 32;
            for (int n = begin; n < end; n++) {
                arrive(leads[n] / 64, leads[n] % 64, place, depths[place] + 1);
            }
        }

        private void arrive(int stand, int step, int origin, int depth) {
            if (seen[stand] != turn && tail < MOST_STANDS) {
                seen[stand] = turn;
                stands[tail] = stand;
                depths[tail] = depth;
                origins[tail] = origin;
                steps[tail] = step;
                tail++;
            }
        }

        private void learn(int stand) {
            int begin = used;
            for (int n = 0; n < MOST_MEN * WAYS; n++) {
                int then = rules.after(stand, n / WAYS, n % WAYS);
                if (then != NONE && used < leads.length) {
                    leads[used] = 64 * then + 10 * (n / WAYS) + n % WAYS;
                    used++;
                }
            }
            begins[stand] = 32 * begin + used - begin;
        }
    }

    /** Wants of MEN to be on CELLS, and the order in which they are met best. */
    private static final class Wants {
        int many;
        final int[] men = new int[MOST_WANTS];
        final int[] cells = new int[MOST_WANTS];
        final int[] best = new int[MOST_WANTS];
        int bestMet;
        private int bestSteps;
        private final int[] chosen = new int[MOST_WANTS];
        private final Search search;
        /** For each level of arrange() and each want: where it leads, and by how many STEPS. */
        private final int[] thens = new int[MOST_WANTS * MOST_WANTS];
        private final int[] costs = new int[MOST_WANTS * MOST_WANTS];

        Wants(Search by) {
            search = by;
        }

        void take(Shelf rows, int r) {
            many = Math.max(0, Math.min(rows.size(r), MOST_WANTS));
            for (int n = 0; n < many; n++) {
                men[n] = rows.get(r, n) / 100;
                cells[n] = rows.get(r, n) % 100;
            }
            bestMet = NONE;
            bestSteps = 0;
        }

        int all() {
            return (1 << many) - 1;
        }

        /**
         * Tries all orders of the wants left, the first ones first, behind those chosen. A want
         * that could not be met from an earlier STAND (out of hope) can't be from a later one.
         */
        private void arrange(int level, int stand, int steps, int left, int hope) {
            if (level >= many || level >= MOST_WANTS) {
                offer(level, steps, level, 0);
                return;
            }
            int able = 0;
            for (int w = 0; w < many; w++) {
                boolean hoped = ((left & hope) >> w & 1) == 1;
                int place = hoped ? search.nearest(stand, men[w], cells[w]) : NONE;
                if (place != NONE) {
                    able |= 1 << w;
                    thens[level * MOST_WANTS + w] = search.stand(place);
                    costs[level * MOST_WANTS + w] = search.depth(place);
                }
            }
            if (!beats(level + Integer.bitCount(able), steps)) {
                return;
            }
            for (int w = 0; w < many; w++) {
                int rest = left & ~(1 << w);
                int n = level * MOST_WANTS + w;
                if ((able >> w & 1) == 1) {
                    chosen[level] = w;
                    arrange(level + 1, thens[n], steps + costs[n], rest, able);
                } else if (rest != left) {
                    chosen[level] = w;
                    offer(level, steps, level + 1, rest);
                }
            }
        }

        private boolean beats(int met, int steps) {
            return met > bestMet || met == bestMet && steps < bestSteps;
        }

        /** Of alike orders the first one offered stays. */
        private void offer(int met, int steps, int placed, int rest) {
            if (!beats(met, steps)) {
                return;
            }
            bestMet = met;
            bestSteps = steps;
            System.arraycopy(chosen, 0, best, 0, MOST_WANTS);
            int n = placed;
            for (int w = 0; w < many && n < many; w++) {
                if ((rest >> w & 1) == 1) {
                    best[n] = w;
                    n++;
                }
            }
        }
    }
}
