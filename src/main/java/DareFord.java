import java.util.Arrays;

/**
 * The ford goes to whoever dares: a river that can be crossed at one place, which moves in the night
 * to in front of whichever house would soonest have gone in without it.
 */
public final class DareFord {
    public static final int BAD = -1, FULL = -2, FINDING = -3, STATE = -4, SPENT = -6, NONE = -9;

    private static final int NOTHING = 1, BEYOND = 2, UNLIKE = 3, NOUGHT = 4, SIZE = 5;
    private static final int FINDINGS = 5;

    private static final int PERSON = 0, DRUNK = 1, FEARFUL = 2, BRED = 3, BET = 4, QUIET = 5;
    private static final int KINDS = 6;

    private static final int ROWS = 6, ROW_MOST = 40, TEXTS = 4, TEXT_MOST = 60, KEPT = 3;
    private static final int PEOPLE_MOST = 6, PLACE_MOST = 9, DARING_MOST = 20, DEEDS_MOST = 40;
    private static final int MISSING = -1;

    private static final int NIGHTS_MOST = 40, LIFT_NIGHTS = 20, LOOK_NIGHTS = 20, HOLDERS_MOST = 10;
    private static final int NUMBER_MOST = 99, BY_MOST = 9, SET_MOST = 120, DUEL_MOST = 3, LOTS_MOST = 20;
    private static final int CERTAIN = 12, WHATS = 12, TELLS = 6;
    private static final int FEAR_BELOW = 5, BET_MOST = 3, QUIET_FROM = 10, CROSSING = 2;

    private static final int NIGHT = 0, RAISING = 1, SHAMING = 2, MOVING = 3;

    private static final int BLANK = 32, LETTER_FORD = 'f', PERSON_SIZE = 4;
    private static final long LOT_FACTOR = 48271L, LOT_MODULUS = 2147483647L;
    private static final int EUCLID_STEPS = 1000;

    /** Where nobody is counted in rows that have a place for each of PEOPLE. */
    private static final int NOBODY = PEOPLE_MOST;

    private final int[][] rows = new int[ROWS][ROW_MOST];
    private final int[] rowSizes = new int[ROWS];
    private final byte[][] texts = new byte[TEXTS][TEXT_MOST];
    private final int[] textSizes = new int[TEXTS];

    private final Bank start = new Bank();
    private final Bank now = new Bank();
    private final Bank aside = new Bank();

    private final int[] deeds = new int[DEEDS_MOST];
    private int deedCount = 0;

    // All kept RIVERS began as this one did: their DEEDS are enough to have them again.
    private final int[][] keptDeeds = new int[KEPT][DEEDS_MOST];
    private final int[] keptCounts = new int[KEPT];

    private int askedTold = 0;
    private long upperTold = 0;
    private long lowerTold = 1;
    private int latestFinding = 0;
    private final int[] findingCounts = new int[FINDINGS + 1];

    private final int[] shares = new int[PEOPLE_MOST];
    private final int[] weights = new int[PEOPLE_MOST + 1];
    private final int[][] parts = new int[LOOK_NIGHTS][PEOPLE_MOST + 1];

    public DareFord() {
        Arrays.fill(rowSizes, MISSING);
        Arrays.fill(textSizes, MISSING);
        Arrays.fill(keptCounts, MISSING);
    }

    // ---- 1 rows, texts, rivers

    public int row(int r, int n) {
        if (!isRow(r) || n > ROW_MOST) {
            return BAD;
        }
        if (n < 0) {
            return found(SIZE);
        }
        layAnew(r, n);
        return n;
    }

    public int lay(int r, int i, int v) {
        int refusal = refusalOfPlace(r, i);
        if (refusal != 0) {
            return refusal;
        }
        int was = rows[r][i];
        rows[r][i] = v;
        return tell(was);
    }

    public int at(int r, int i) {
        int refusal = refusalOfPlace(r, i);
        if (refusal != 0) {
            return refusal;
        }
        return tell(rows[r][i]);
    }

    public int tear(int r) {
        if (!isRow(r)) {
            return BAD;
        }
        if (rowSizes[r] < 0) {
            return found(NOTHING);
        }
        rowSizes[r] = MISSING;
        return 1;
    }

    public int copy(int r, int i, int to, int j, int n) {
        if (!isRow(r) || !isRow(to)) {
            return BAD;
        }
        if (n < 0) {
            return found(SIZE);
        }
        if (rowSizes[r] < 0 || rowSizes[to] < 0) {
            return found(NOTHING);
        }
        if (i < 0 || i > rowSizes[r] - n || j < 0 || j > rowSizes[to] - n) {
            return found(BEYOND);
        }
        System.arraycopy(rows[r], i, rows[to], j, n);
        return 1;
    }

    public int mean(int r) {
        if (!isRow(r)) {
            return BAD;
        }
        int size = rowSizes[r];
        if (size < 0) {
            return found(NOTHING);
        }
        if (size == 0) {
            return found(NOUGHT);
        }
        long sum = 0;
        for (int i = 0; i < size; i++) {
            sum += rows[r][i];
        }
        return tell((int) (sum / size));
    }

    public int text(int t, int n) {
        if (!isText(t) || n > TEXT_MOST) {
            return BAD;
        }
        if (n < 0) {
            return found(SIZE);
        }
        textSizes[t] = n;
        Arrays.fill(texts[t], (byte) BLANK);
        return n;
    }

    public int put(int t, int i, int v) {
        if (!isText(t)) {
            return BAD;
        }
        if (textSizes[t] < 0) {
            return found(NOTHING);
        }
        if (i < 0 || i >= textSizes[t]) {
            return found(BEYOND);
        }
        int was = texts[t][i];
        texts[t][i] = (byte) v;
        return was + 1000;
    }

    public int fault(int t) {
        if (!isText(t)) {
            return BAD;
        }
        if (textSizes[t] < 0) {
            return found(NOTHING);
        }
        return readAside(texts[t], textSizes[t]);
    }

    public int river(int t) {
        if (!isText(t)) {
            return BAD;
        }
        if (textSizes[t] < 0) {
            return found(NOTHING);
        }
        if (readAside(texts[t], textSizes[t]) != NONE) {
            return STATE;
        }
        start.become(aside);
        now.become(aside);
        deedCount = 0;
        Arrays.fill(keptCounts, MISSING);
        return now.people;
    }

    public int one(int i, int what) {
        if (!now.has(i) || !isWithin(what, 0, TELLS - 1)) {
            return BAD;
        }
        return tell(now.told(i, what));
    }

    public int mark(int i, int kind) {
        if (!now.has(i) || !isWithin(kind, DRUNK, QUIET)) {
            return BAD;
        }
        if (!isOf(now.kinds[i], kind)) {
            return found(UNLIKE);
        }
        return now.markOf(i, kind);
    }

    // ---- 2 deeds

    public int night() {
        if (now.people == 0) {
            return STATE;
        }
        if (deedCount >= DEEDS_MOST) {
            return FULL;
        }
        int who = now.holder(0);
        perform(deedOf(NIGHT, 0, 0));
        return who;
    }

    public int raise(int i, int n) {
        if (!now.has(i) || !isWithin(n, 1, BY_MOST)) {
            return BAD;
        }
        if (now.darings[i] + n > DARING_MOST) {
            return STATE;
        }
        if (deedCount >= DEEDS_MOST) {
            return FULL;
        }
        perform(deedOf(RAISING, i, n));
        return now.darings[i];
    }

    public int shame(int i, int n) {
        if (!now.has(i) || !isWithin(n, 1, BY_MOST)) {
            return BAD;
        }
        if (now.darings[i] - n < 0) {
            return STATE;
        }
        if (deedCount >= DEEDS_MOST) {
            return FULL;
        }
        perform(deedOf(SHAMING, i, n));
        return now.darings[i];
    }

    public int door(int i, int place) {
        if (!now.has(i) || !isPlace(place)) {
            return BAD;
        }
        int was = now.doors[i];
        if (was == place) {
            return STATE;
        }
        if (deedCount >= DEEDS_MOST) {
            return FULL;
        }
        perform(deedOf(MOVING, i, place));
        return was;
    }

    public int undo(int n) {
        if (!isWithin(n, 0, deedCount)) {
            return BAD;
        }
        int undone = deedCount - n;
        deedCount = n;
        performAgain();
        return undone;
    }

    public int keep(int k) {
        if (!isKept(k)) {
            return BAD;
        }
        if (now.people == 0) {
            return STATE;
        }
        System.arraycopy(deeds, 0, keptDeeds[k], 0, deedCount);
        keptCounts[k] = deedCount;
        return deedCount;
    }

    public int on(int k) {
        if (!isKept(k)) {
            return BAD;
        }
        if (keptCounts[k] < 0) {
            return found(NOTHING);
        }
        deedCount = keptCounts[k];
        System.arraycopy(keptDeeds[k], 0, deeds, 0, deedCount);
        performAgain();
        return deedCount;
    }

    // ---- 3 what comes (aside)

    public int dares(int i, int daring, int number, int far) {
        if (!now.has(i) || !isWithin(daring, 0, DARING_MOST)) {
            return BAD;
        }
        if (!isWithin(number, 0, NUMBER_MOST) || !isWithin(far, 0, PLACE_MOST)) {
            return BAD;
        }
        return boldness(now.kinds[i], daring, number, far);
    }

    public int where(int n) {
        if (!isWithin(n, 0, NIGHTS_MOST)) {
            return BAD;
        }
        if (now.people == 0) {
            return STATE;
        }
        aside.become(now);
        tell(holderAside(n));
        return aside.ford;
    }

    public int crosses(int i, int n) {
        if (!now.has(i) || !isWithin(n, 0, NIGHTS_MOST)) {
            return BAD;
        }
        aside.become(now);
        holderAside(n);
        return aside.crossings[i] - now.crossings[i];
    }

    public int first(int i) {
        if (!now.has(i)) {
            return BAD;
        }
        aside.become(now);
        for (int n = 1; n <= NIGHTS_MOST; n++) {
            if (aside.passNight() == i) {
                return n;
            }
        }
        return NONE;
    }

    // ---- 4 raising, shaming (aside, now)

    public int lift(int i, int n) {
        if (!now.has(i) || !isWithin(n, 1, LIFT_NIGHTS)) {
            return BAD;
        }
        for (int by = 0; now.darings[i] + by <= DARING_MOST; by++) {
            aside.become(now);
            aside.darings[i] = now.darings[i] + by;
            if (holderAside(n) == i) {
                return by;
            }
        }
        return NONE;
    }

    public int cheap(int i, int r) {
        if (!now.has(i) || !isRow(r)) {
            return BAD;
        }
        int least = NONE;
        int leastRaise = 0;
        for (int by = 0; now.darings[i] + by <= DARING_MOST; by++) {
            int price = priceByShares(i, by);
            if (price != NONE && (least == NONE || price < least)) {
                least = price;
                leastRaise = by;
            }
        }
        if (least == NONE) {
            return NONE;
        }
        priceByShares(i, leastRaise);
        layAnew(r, now.people);
        System.arraycopy(shares, 0, rows[r], 0, now.people);
        return least;
    }

    // ---- 5 by at whose door it was

    public int darings(int i, int r) {
        int refusal = refusalOfHolders(i, r);
        return refusal != 0 ? refusal : daringsBy(i, r);
    }

    public int kinds(int i, int r) {
        int refusal = refusalOfHolders(i, r);
        if (refusal != 0) {
            return refusal;
        }
        int bits = 0;
        for (int kind = 0; kind < KINDS; kind++) {
            aside.become(now);
            aside.kinds[i] = kind;
            if (goesAsideBy(r)) {
                bits |= 1 << kind;
            }
        }
        return bits;
    }

    public int look(int i, int r) {
        int refusal = refusalOfHolders(i, r);
        if (refusal != 0) {
            return refusal;
        }
        int bits = daringsBy(i, r);
        if (bits == 0) {
            return NONE;
        }
        countParts(i, bits);
        int best = 0;
        for (int n = 1; n < LOOK_NIGHTS; n++) {
            if (greatestPart(n) < greatestPart(best)) {
                best = n;
            }
        }
        tell(greatestPart(best));
        return best + 1;
    }

    // ---- 6 in whom

    public int sets(int v) {
        if (!isWithin(v, 0, SET_MOST)) {
            return BAD;
        }
        if (now.people == 0) {
            return STATE;
        }
        int many = 0;
        int leastBits = NONE;
        for (int bits = 0; bits < 1 << now.people; bits++) {
            if (now.daringOf(bits) == v) {
                leastBits = many == 0 ? bits : leastBits;
                many++;
            }
        }
        tellRatio(many, 1);
        return tell(leastBits);
    }

    public int sure(int v) {
        if (!isWithin(v, 0, SET_MOST)) {
            return BAD;
        }
        if (now.people == 0) {
            return STATE;
        }
        int all = (1 << now.people) - 1;
        int inEach = all;
        int inSome = 0;
        boolean isNone = true;
        for (int bits = 0; bits <= all; bits++) {
            if (now.daringOf(bits) == v) {
                inEach &= bits;
                inSome |= bits;
                isNone = false;
            }
        }
        if (isNone) {
            return found(NOUGHT);
        }
        tell(all & ~inSome);
        return inEach;
    }

    // ---- 7 by turns

    public int duel(int i, int j, int n) {
        if (!now.has(i) || !now.has(j) || i == j || !isWithin(n, 0, DUEL_MOST)) {
            return BAD;
        }
        aside.become(now);
        return tell(outcome(aside, i, j, 2 * n));
    }

    // ---- 8 chances, lots

    public int odds(int i, int p) {
        if (!now.has(i) || !isWithin(p, 0, CERTAIN)) {
            return BAD;
        }
        weigh(p);
        tellRatio(weights[i], allWeight());
        return 1;
    }

    public int mid(int place, int p) {
        if (!isPlace(place) || !isWithin(p, 0, CERTAIN)) {
            return BAD;
        }
        if (now.people == 0) {
            return STATE;
        }
        weigh(p);
        tellRatio(weighedFar(place), allWeight());
        return 1;
    }

    public int fair(int p) {
        if (!isWithin(p, 0, CERTAIN)) {
            return BAD;
        }
        if (now.people == 0) {
            return STATE;
        }
        weigh(p);
        int best = 0;
        for (int place = 1; place <= PLACE_MOST; place++) {
            if (weighedFar(place) < weighedFar(best)) {
                best = place;
            }
        }
        tellRatio(weighedFar(best), allWeight());
        return best;
    }

    public int lots(int n, int seed) {
        if (!isWithin(n, 1, LOTS_MOST) || !isWithin(seed, 1, (int) LOT_MODULUS - 1)) {
            return BAD;
        }
        if (now.people == 0) {
            return STATE;
        }
        if (deedCount + n > DEEDS_MOST) {
            return FULL;
        }
        long lot = seed;
        for (int done = 0; done < n; done++) {
            lot = lot * LOT_FACTOR % LOT_MODULUS;
            perform(deedByLot((int) lot));
        }
        return now.ford;
    }

    // ---- 9 what is told

    public int asked() {
        return askedTold;
    }

    public long upper() {
        return upperTold;
    }

    public long lower() {
        return lowerTold;
    }

    public int count(int what) {
        switch (what) {
            case 0: return now.people;
            case 1: return now.number;
            case 2: return deedCount;
            case 3: return now.ford;
            case 4: return bitOf(now.holder(0));
            case 5: return now.daringOf((1 << now.people) - 1);
            case 6: return now.allCrossings();
            case 7: return now.howManyOf(FEARFUL);
            case 8: return now.howManyOf(BRED);
            case 9: return howManyThere(rowSizes);
            case 10: return howManyThere(textSizes);
            case 11: return howManyThere(keptCounts);
            default: return BAD;
        }
    }

    public int finding() {
        return latestFinding;
    }

    public int findings(int f) {
        return isWithin(f, 1, FINDINGS) ? findingCounts[f] : BAD;
    }

    public long digest() {
        long h = 17;
        for (int what = 0; what < WHATS; what++) {
            h = 31 * h + count(what);
        }
        for (int i = 0; i < now.people; i++) {
            for (int what = 0; what < TELLS; what++) {
                h = 31 * h + now.told(i, what);
            }
        }
        for (int k = 0; k < KEPT; k++) {
            h = 31 * h + keptCounts[k];
        }
        for (int r = 0; r < ROWS; r++) {
            h = 31 * h + rowSizes[r];
            for (int i = 0; i < rowSizes[r]; i++) {
                h = 31 * h + rows[r][i];
            }
        }
        for (int t = 0; t < TEXTS; t++) {
            h = 31 * h + textSizes[t];
            for (int i = 0; i < textSizes[t]; i++) {
                h = 31 * h + texts[t][i];
            }
        }
        return h;
    }

    // ---- numbers that are told, findings

    private int tell(int v) {
        askedTold = v;
        return 1;
    }

    private void tellRatio(long upper, long lower) {
        long divisor = greatestDivisor(upper, lower);
        if (divisor > 0) {
            upperTold = upper / divisor;
            lowerTold = lower / divisor;
        }
    }

    private static long greatestDivisor(long a, long b) {
        long greater = a;
        long lesser = b;
        for (int step = 0; step < EUCLID_STEPS && lesser != 0; step++) {
            long rest = greater % lesser;
            greater = lesser;
            lesser = rest;
        }
        return greater;
    }

    private int found(int f) {
        if (isWithin(f, 1, FINDINGS)) {
            latestFinding = f;
            findingCounts[f]++;
        }
        return FINDING;
    }

    private static int howManyThere(int[] sizes) {
        int there = 0;
        for (int size : sizes) {
            if (size >= 0) {
                there++;
            }
        }
        return there;
    }

    private static int bitOf(int who) {
        return who >= 0 ? 1 << who : 0;
    }

    // ---- what is as told

    private static boolean isWithin(int v, int least, int most) {
        return v >= least && v <= most;
    }

    private static boolean isRow(int r) {
        return r >= 0 && r < ROWS;
    }

    private static boolean isText(int t) {
        return t >= 0 && t < TEXTS;
    }

    private static boolean isKept(int k) {
        return k >= 0 && k < KEPT;
    }

    private static boolean isPlace(int place) {
        return place >= 0 && place <= PLACE_MOST;
    }

    private int refusalOfPlace(int r, int i) {
        if (!isRow(r)) {
            return BAD;
        }
        if (rowSizes[r] < 0) {
            return found(NOTHING);
        }
        return i < 0 || i >= rowSizes[r] ? found(BEYOND) : 0;
    }

    private int refusalOfHolders(int i, int r) {
        if (!now.has(i) || !isRow(r)) {
            return BAD;
        }
        int size = rowSizes[r];
        if (size < 0) {
            return found(NOTHING);
        }
        if (!isWithin(size, 1, HOLDERS_MOST)) {
            return found(SIZE);
        }
        for (int night = 0; night < size; night++) {
            if (!now.has(rows[r][night])) {
                return found(UNLIKE);
            }
        }
        return 0;
    }

    private void layAnew(int r, int n) {
        rowSizes[r] = n;
        Arrays.fill(rows[r], 0);
    }

    // ---- rivers by texts

    /** The river of a text comes to aside: NONE, or the fault's place. */
    private int readAside(byte[] text, int size) {
        int begin = pastBlanks(text, size, 0);
        if (begin >= size || text[begin] != LETTER_FORD) {
            return begin;
        }
        int fault = firstNoFigure(text, size, begin + 1, 1);
        if (fault != NONE) {
            return fault;
        }
        aside.settle(text[begin + 1] - '0');
        int at = pastBlanks(text, size, begin + 2);
        for (int read = 0; read <= PEOPLE_MOST && at < size; read++) {
            fault = readPersonAside(text, size, at);
            if (fault != NONE) {
                return fault;
            }
            at = pastBlanks(text, size, at + PERSON_SIZE);
        }
        return aside.people == 0 ? size : NONE;
    }

    private int readPersonAside(byte[] text, int size, int at) {
        int kind = kindOf(text[at]);
        if (kind == NONE || aside.people >= PEOPLE_MOST) {
            return at;
        }
        int fault = firstNoFigure(text, size, at + 1, PERSON_SIZE - 1);
        if (fault != NONE) {
            return fault;
        }
        int daring = 10 * (text[at + 2] - '0') + text[at + 3] - '0';
        if (daring > DARING_MOST) {
            return at + 2;
        }
        aside.add(kind, text[at + 1] - '0', daring);
        return NONE;
    }

    private static int pastBlanks(byte[] text, int size, int from) {
        int at = from;
        while (at < size && text[at] == BLANK) {
            at++;
        }
        return at;
    }

    private static int firstNoFigure(byte[] text, int size, int from, int n) {
        for (int at = from; at < from + n; at++) {
            if (at >= size || text[at] < '0' || text[at] > '9') {
                return at;
            }
        }
        return NONE;
    }

    // ---- kinds

    private static int kindOf(int letter) {
        switch (letter) {
            case 'p': return PERSON;
            case 'd': return DRUNK;
            case 'e': return FEARFUL;
            case 'b': return BRED;
            case 't': return BET;
            case 'q': return QUIET;
            default: return NONE;
        }
    }

    private static boolean isOf(int kind, int other) {
        return kind == other || other == PERSON
            || kind == BET && other == BRED
            || kind == QUIET && other == FEARFUL;
    }

    private static int boldness(int kind, int daring, int number, int far) {
        switch (kind) {
            case DRUNK: return number % 2 == 0 ? 2 * daring : daring;
            case FEARFUL: return fearfulBoldness(daring);
            case BET: return daring + betBoldness(far);
            case QUIET: return Math.max(0, QUIET_FROM - fearfulBoldness(daring));
            default: return daring;
        }
    }

    private static int fearfulBoldness(int daring) {
        return daring < FEAR_BELOW ? 0 : daring;
    }

    private static int betBoldness(int far) {
        return far < BET_MOST ? far : BET_MOST;
    }

    private static int fading(int kind) {
        if (isOf(kind, BRED)) {
            return 0;
        }
        return isOf(kind, FEARFUL) ? 2 : 1;
    }

    // ---- deeds

    private static int deedOf(int what, int who, int by) {
        return what | who << 2 | by << 5;
    }

    private int deedByLot(int lot) {
        int who = now.people > 0 ? lot % now.people : 0;
        int what = lot / 8 % 8;
        int more = lot / 64;
        if (what <= 1) {
            return deedOf(RAISING, who, 1 + more % 5);
        }
        if (what == 2) {
            return deedOf(SHAMING, who, 1 + more % 5);
        }
        return what == 3 ? deedOf(MOVING, who, more % (PLACE_MOST + 1)) : deedOf(NIGHT, 0, 0);
    }

    private void perform(int deed) {
        if (deedCount < DEEDS_MOST) {
            deeds[deedCount] = deed;
            deedCount++;
            now.undergo(deed);
        }
    }

    private void performAgain() {
        now.become(start);
        for (int d = 0; d < deedCount; d++) {
            now.undergo(deeds[d]);
        }
    }

    // ---- aside

    /** Who has the ford in the last of n nights that pass aside. */
    private int holderAside(int n) {
        int who = NONE;
        for (int passed = 0; passed < n; passed++) {
            who = aside.passNight();
        }
        return who;
    }

    private boolean goesAsideBy(int r) {
        for (int night = 0; night < rowSizes[r]; night++) {
            if (aside.passNight() != rows[r][night]) {
                return false;
            }
        }
        return true;
    }

    private int daringsBy(int i, int r) {
        int bits = 0;
        for (int daring = 0; daring <= DARING_MOST; daring++) {
            aside.become(now);
            aside.darings[i] = daring;
            if (goesAsideBy(r)) {
                bits |= 1 << daring;
            }
        }
        return bits;
    }

    /** For each night, and for each that has the ford in it, by how many of these darings of one. */
    private void countParts(int i, int bits) {
        for (int n = 0; n < LOOK_NIGHTS; n++) {
            Arrays.fill(parts[n], 0);
        }
        for (int daring = 0; daring <= DARING_MOST; daring++) {
            if ((bits >> daring & 1) != 0) {
                aside.become(now);
                aside.darings[i] = daring;
                for (int n = 0; n < LOOK_NIGHTS; n++) {
                    parts[n][placeOf(aside.passNight())]++;
                }
            }
        }
    }

    private int greatestPart(int n) {
        int greatest = 0;
        for (int part : parts[n]) {
            greatest = Math.max(greatest, part);
        }
        return greatest;
    }

    private static int placeOf(int who) {
        return who == NONE ? NOBODY : who;
    }

    /**
     * What it takes that one, raised by so much, has the ford, the others' part in shares: the sum, or NONE.
     * Each is shamed by itself, for no other's daring changes whether one is ahead of it.
     */
    private int priceByShares(int i, int by) {
        int most = now.boldnessAt(i, now.darings[i] + by);
        if (most == 0) {
            return NONE;
        }
        int price = by;
        for (int j = 0; j < now.people; j++) {
            shares[j] = j == i ? by : leastShame(j, i, most);
            if (shares[j] == NONE) {
                return NONE;
            }
            price += j == i ? 0 : shares[j];
        }
        return price;
    }

    private int leastShame(int j, int i, int most) {
        boolean yields = now.isBehind(j, i);
        for (int by = 0; by <= now.darings[j]; by++) {
            int boldness = now.boldnessAt(j, now.darings[j] - by);
            if (boldness < most || boldness == most && yields) {
                return by;
            }
        }
        return NONE;
    }

    /** What becomes of a duel with so many turns left: twice DUEL_MOST at most, so deep it goes. */
    private static int outcome(Bank bank, int i, int j, int turns) {
        if (turns <= 0) {
            int who = bank.holder(0);
            return who == i ? 1 : who == j ? -1 : 0;
        }
        boolean isFirst = turns % 2 == 0;
        int who = isFirst ? i : j;
        int daring = bank.darings[who];
        int best = isFirst ? -1 : 1;
        for (int by = 0; by <= 2; by++) {
            bank.darings[who] = Math.min(DARING_MOST, daring + by);
            int reached = outcome(bank, i, j, turns - 1);
            best = isFirst ? Math.max(best, reached) : Math.min(best, reached);
        }
        bank.darings[who] = daring;
        return best;
    }

    // ---- chances

    /** In how many of allWeight() cases who has the ford comes to weights. */
    private void weigh(int p) {
        Arrays.fill(weights, 0);
        for (int failing = 0; failing < 1 << now.people; failing++) {
            int weight = 1;
            for (int i = 0; i < now.people; i++) {
                weight *= (failing >> i & 1) != 0 ? p : CERTAIN - p;
            }
            weights[placeOf(now.holder(failing))] += weight;
        }
    }

    private int allWeight() {
        int all = 1;
        for (int i = 0; i < now.people; i++) {
            all *= CERTAIN;
        }
        return all;
    }

    private int weighedFar(int place) {
        int sum = weights[NOBODY] * Math.abs(now.ford - place);
        for (int i = 0; i < now.people; i++) {
            sum += weights[i] * Math.abs(now.doors[i] - place);
        }
        return sum;
    }

    /** People with their doors along the bank, and where the ford is. */
    private static final class Bank {
        private final int[] kinds = new int[PEOPLE_MOST];
        private final int[] doors = new int[PEOPLE_MOST];
        private final int[] darings = new int[PEOPLE_MOST];
        private final int[] crossings = new int[PEOPLE_MOST];
        private int people = 0;
        private int ford = 0;
        private int number = 0;

        private void become(Bank other) {
            System.arraycopy(other.kinds, 0, kinds, 0, PEOPLE_MOST);
            System.arraycopy(other.doors, 0, doors, 0, PEOPLE_MOST);
            System.arraycopy(other.darings, 0, darings, 0, PEOPLE_MOST);
            System.arraycopy(other.crossings, 0, crossings, 0, PEOPLE_MOST);
            people = other.people;
            ford = other.ford;
            number = other.number;
        }

        private void settle(int place) {
            people = 0;
            ford = place;
            number = 0;
        }

        private void add(int kind, int place, int daring) {
            if (people < PEOPLE_MOST) {
                kinds[people] = kind;
                doors[people] = place;
                darings[people] = daring;
                crossings[people] = 0;
                people++;
            }
        }

        private boolean has(int i) {
            return i >= 0 && i < people;
        }

        private int farOf(int i) {
            return Math.abs(ford - doors[i]);
        }

        private int boldnessAt(int i, int daring) {
            return boldness(kinds[i], daring, number, farOf(i));
        }

        /** Of two that dare alike, whether j has the ford only if i has it not. */
        private boolean isBehind(int j, int i) {
            return farOf(j) != farOf(i) ? farOf(j) > farOf(i) : j > i;
        }

        /** Who has the ford next night if some (bits) fail, or NONE. */
        private int holder(int failing) {
            int best = NONE;
            int most = 0;
            for (int i = 0; i < people; i++) {
                int boldness = (failing >> i & 1) != 0 ? 0 : boldnessAt(i, darings[i]);
                if (boldness > most || best != NONE && boldness == most && isBehind(best, i)) {
                    best = i;
                    most = boldness;
                }
            }
            return best;
        }

        private int passNight() {
            int who = holder(0);
            for (int i = 0; i < people; i++) {
                int less = i == who ? CROSSING : fading(kinds[i]);
                darings[i] = Math.max(0, darings[i] - less);
            }
            if (has(who)) {
                ford = doors[who];
                crossings[who]++;
            }
            number++;
            return who;
        }

        private void undergo(int deed) {
            int what = deed & 3;
            int who = deed >> 2 & 7;
            int by = deed >> 5;
            if (what == NIGHT) {
                passNight();
            } else if (has(who)) {
                if (what == RAISING) {
                    darings[who] = Math.min(DARING_MOST, darings[who] + by);
                } else if (what == SHAMING) {
                    darings[who] = Math.max(0, darings[who] - by);
                } else {
                    doors[who] = by;
                }
            }
        }

        private int told(int i, int what) {
            switch (what) {
                case 0: return kinds[i];
                case 1: return doors[i];
                case 2: return darings[i];
                case 3: return boldnessAt(i, darings[i]);
                case 4: return crossings[i];
                default: return farOf(i);
            }
        }

        private int markOf(int i, int kind) {
            switch (kind) {
                case DRUNK: return boldness(DRUNK, darings[i], number + 1, farOf(i));
                case FEARFUL: return Math.max(0, FEAR_BELOW - darings[i]);
                case BRED: return howManyBelow(darings[i]);
                case BET: return betBoldness(farOf(i));
                default: return fearfulBoldness(darings[i]);
            }
        }

        private int howManyBelow(int daring) {
            int below = 0;
            for (int i = 0; i < people; i++) {
                if (darings[i] < daring) {
                    below++;
                }
            }
            return below;
        }

        private int howManyOf(int kind) {
            int many = 0;
            for (int i = 0; i < people; i++) {
                if (isOf(kinds[i], kind)) {
                    many++;
                }
            }
            return many;
        }

        private int daringOf(int bits) {
            int sum = 0;
            for (int i = 0; i < people; i++) {
                if ((bits >> i & 1) != 0) {
                    sum += darings[i];
                }
            }
            return sum;
        }

        private int allCrossings() {
            int sum = 0;
            for (int i = 0; i < people; i++) {
                sum += crossings[i];
            }
            return sum;
        }
    }
}
