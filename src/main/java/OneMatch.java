/**
 * A village cut off by snow, with one match: where it is struck, how the fire is carried from house to
 * house along the lane, how long it lasts, and the plans by which it is where it is needed.
 *
 * All that the object needs is made in its constructor; no call makes anything new.
 */
public final class OneMatch {
    public static final int BAD = -1, FULL = -2, FINDING = -3, STATE = -4, SPENT = -6, NONE = -9;

    private static final int NOTHING = 1, BEYOND = 2, UNLIKE = 3, NOUGHT = 4, SIZE = 5;
    private static final int ROWS = 6, TEXTS = 4, KEPT = 3;
    private static final int MOST_PLACES = 40, MOST_BYTES = 60;
    private static final int MOST_HOUSES = 5, MOST_WINDS = 6, MOST_DEEDS = 40;
    private static final int LAST_HOUR = 999, MOST_WOOD = 9;
    private static final int HOURS_AHEAD = 4, WORST_HOURS = 20, SPRING_HOURS = 20, MARK_HOURS = 8;
    private static final int RUN_MOVES = 10, ODDS_MOVES = 4, BOOK_SETS = 5, LOTS_HOURS = 10;
    private static final int MISSING = -1;
    private static final int BLANK = 32;

    /** A MOVE is 6 times from where, and to where; as a DEED, the one that is none is an HOUR. */
    private static final int MOVE_BASE = 6, NO_MOVE = 36;
    /** DEEDS from this number on are strikings: it and the HOUSE. */
    private static final int STRIKING = 40;

    private static final int CALM_REACH = 3;
    private static final int TWELVE = 12;
    private static final int LOT_FACTOR = 48271, LOT_MODULUS = 2147483647, LOT_SHARE = 16;
    private static final int COUNTS = 9, HOUSE_FACTS = 6;

    private final Row[] rows;
    private final Text[] texts;
    private final Lane lane;
    private final Campaign village;
    private final Campaign[] kept;
    private final Reader reader;
    /** What a TEXT is read into that is only looked at. */
    private final Lane spareLane;
    private final Fire spareFire;
    private final Fire aside;
    private final Plans plans;
    private final Smoke smoke;
    private final Odds odds;
    private final int[] findings;
    private int finding;
    private int asked;
    private long upper;
    private long lower;

    public OneMatch() {
        rows = new Row[ROWS];
        for (int r = 0; r < ROWS; r++) {
            rows[r] = new Row();
        }
        texts = new Text[TEXTS];
        for (int t = 0; t < TEXTS; t++) {
            texts[t] = new Text();
        }
        lane = new Lane();
        village = new Campaign(lane);
        kept = new Campaign[KEPT];
        for (int k = 0; k < KEPT; k++) {
            kept[k] = new Campaign(lane);
        }
        reader = new Reader();
        spareLane = new Lane();
        spareFire = new Fire(spareLane);
        aside = new Fire(lane);
        plans = new Plans(lane);
        smoke = new Smoke(lane);
        odds = new Odds(lane);
        findings = new int[SIZE + 1];
        finding = 0;
        asked = 0;
        upper = 0;
        lower = 1;
    }

    // ---- 1 rows, texts, villages

    public int row(int r, int n) {
        if (!isRow(r) || n > MOST_PLACES) {
            return BAD;
        }
        if (n < 0) {
            return found(SIZE);
        }
        rows[r].begin(n);
        return n;
    }

    public int lay(int r, int i, int v) {
        if (!isRow(r)) {
            return BAD;
        }
        Row row = rows[r];
        int wrong = row.lacks(i);
        if (wrong != 0) {
            return found(wrong);
        }
        asked = row.get(i);
        row.set(i, v);
        return 1;
    }

    public int at(int r, int i) {
        if (!isRow(r)) {
            return BAD;
        }
        int wrong = rows[r].lacks(i);
        if (wrong != 0) {
            return found(wrong);
        }
        asked = rows[r].get(i);
        return 1;
    }

    public int tear(int r) {
        if (!isRow(r)) {
            return BAD;
        }
        if (!rows[r].isThere()) {
            return found(NOTHING);
        }
        rows[r].end();
        return 1;
    }

    public int copy(int r, int i, int to, int j, int n) {
        if (!isRow(r) || !isRow(to)) {
            return BAD;
        }
        if (n < 0) {
            return found(SIZE);
        }
        if (!rows[r].isThere() || !rows[to].isThere()) {
            return found(NOTHING);
        }
        if (!rows[r].hasSpan(i, n) || !rows[to].hasSpan(j, n)) {
            return found(BEYOND);
        }
        // arraycopy behaves as if the places were taken ahead, within one ROW too
        System.arraycopy(rows[r].places, i, rows[to].places, j, n);
        return 1;
    }

    public int mean(int r) {
        if (!isRow(r)) {
            return BAD;
        }
        Row row = rows[r];
        if (!row.isThere()) {
            return found(NOTHING);
        }
        if (row.size == 0) {
            return found(NOUGHT);
        }
        asked = (int) (row.sum() / row.size);
        return 1;
    }

    public int text(int t, int n) {
        if (!isText(t) || n > MOST_BYTES) {
            return BAD;
        }
        if (n < 0) {
            return found(SIZE);
        }
        texts[t].begin(n);
        return n;
    }

    public int put(int t, int i, int v) {
        if (!isText(t)) {
            return BAD;
        }
        Text text = texts[t];
        if (!text.isThere()) {
            return found(NOTHING);
        }
        if (!text.has(i)) {
            return found(BEYOND);
        }
        int was = text.get(i);
        text.set(i, v);
        return was + 1000;
    }

    public int fault(int t) {
        if (!isText(t)) {
            return BAD;
        }
        if (!texts[t].isThere()) {
            return found(NOTHING);
        }
        return reader.read(texts[t], spareLane, spareFire);
    }

    public int village(int t) {
        if (!isText(t)) {
            return BAD;
        }
        if (!texts[t].isThere()) {
            return found(NOTHING);
        }
        // read aside first: a TEXT with a FAULT leaves the VILLAGE as it is
        if (reader.read(texts[t], spareLane, spareFire) != NONE) {
            return STATE;
        }
        reader.read(texts[t], lane, village.first);
        village.begin();
        for (int k = 0; k < KEPT; k++) {
            kept[k].leave();
        }
        return lane.houses;
    }

    public int house(int h, int what) {
        if (!lane.has(h) || what < 0 || what >= HOUSE_FACTS) {
            return BAD;
        }
        asked = factOf(h, what);
        return 1;
    }

    public int wind(int hour) {
        if (hour < 0 || hour > LAST_HOUR) {
            return BAD;
        }
        if (lane.isEmpty()) {
            return STATE;
        }
        return lane.windAt(hour);
    }

    public int mark(int h, int kind) {
        if (!lane.has(h) || kind < Kinds.PEAT || kind > Kinds.TILE) {
            return BAD;
        }
        if (!Kinds.isOf(lane.kindOf(h), kind)) {
            return found(UNLIKE);
        }
        return markOf(h, kind);
    }

    public int stack(int h, int v) {
        if (!lane.has(h) || v < 0 || v > MOST_WOOD) {
            return BAD;
        }
        if (village.done > 0) {
            return STATE;
        }
        int was = village.now.woodOf(h);
        village.restack(h, v);
        return was;
    }

    // ---- 2 deeds

    public int strike(int h) {
        if (!lane.has(h)) {
            return BAD;
        }
        if (!village.now.canStrike(h)) {
            return STATE;
        }
        if (!village.hasRoom(1)) {
            return FULL;
        }
        village.act(STRIKING + h);
        return 1;
    }

    public int carry(int h, int k) {
        if (!lane.has(h) || !lane.has(k) || h == k) {
            return BAD;
        }
        if (!village.now.canCarry(h, k)) {
            return STATE;
        }
        if (!village.hasRoom(1)) {
            return FULL;
        }
        village.act(MOVE_BASE * h + k);
        return village.now.alight();
    }

    public int hour() {
        if (lane.isEmpty()) {
            return STATE;
        }
        if (!village.hasRoom(1)) {
            return FULL;
        }
        village.act(NO_MOVE);
        return village.now.alight();
    }

    public int undo(int n) {
        if (n < 0 || n > village.done) {
            return BAD;
        }
        return village.goBack(n);
    }

    public int keep(int k) {
        if (!isKeepingPlace(k)) {
            return BAD;
        }
        if (lane.isEmpty()) {
            return STATE;
        }
        kept[k].become(village);
        return village.done;
    }

    public int on(int k) {
        if (!isKeepingPlace(k)) {
            return BAD;
        }
        if (!kept[k].isThere) {
            return found(NOTHING);
        }
        village.become(kept[k]);
        return village.done;
    }

    // ---- 3 what burns, how long

    public int fires() {
        asked = village.now.catching();
        return village.now.burning;
    }

    public int reach() {
        return village.now.reachable();
    }

    public int lasts(int h) {
        if (!lane.has(h)) {
            return BAD;
        }
        return village.now.burnsOn(h);
    }

    public int dark() {
        int longest = 0;
        for (int h = 0; h < lane.houses; h++) {
            longest = Math.max(longest, village.now.burnsOn(h));
        }
        return longest;
    }

    public int worst(int n) {
        if (n < 1 || n > WORST_HOURS) {
            return BAD;
        }
        if (lane.isEmpty()) {
            return STATE;
        }
        int worst = 1;
        int fewest = village.now.alightAfter(1);
        for (int end = 2; end <= n; end++) {
            int alight = village.now.alightAfter(end);
            if (alight < fewest) {
                worst = end;
                fewest = alight;
            }
        }
        asked = fewest;
        return worst;
    }

    // ---- 4 plans

    public int can(int n) {
        if (!isAhead(n)) {
            return BAD;
        }
        plans.search(village.now, n, Plans.COUNT, 0);
        return plans.ever;
    }

    public int plan(int h, int n, int r) {
        if (!lane.has(h) || !isAhead(n) || !isRow(r)) {
            return BAD;
        }
        plans.search(village.now, n, Plans.HOUSE, h);
        return planInto(rows[r]);
    }

    public int ways(int h, int n) {
        if (!lane.has(h) || !isAhead(n)) {
            return BAD;
        }
        plans.search(village.now, n, Plans.COUNT, h);
        asked = plans.fitting;
        tell(plans.all, 1);
        return 1;
    }

    public int most(int n, int r) {
        if (!isAhead(n) || !isRow(r)) {
            return BAD;
        }
        if (lane.isEmpty()) {
            return STATE;
        }
        plans.search(village.now, n, Plans.MOST, 0);
        planInto(rows[r]);
        return plans.rank;
    }

    public int serve(int n, int r) {
        if (!isAhead(n) || !isRow(r)) {
            return BAD;
        }
        if (lane.isEmpty()) {
            return STATE;
        }
        plans.search(village.now, n, Plans.NEEDS, 0);
        return planInto(rows[r]);
    }

    public int run(int r) {
        if (!isRow(r)) {
            return BAD;
        }
        if (lane.isEmpty()) {
            return STATE;
        }
        Row plan = rows[r];
        int wrong = plan.lacksSizeOrRange(0, RUN_MOVES, NO_MOVE);
        if (wrong != 0) {
            return found(wrong);
        }
        aside.become(village.now);
        for (int i = 0; i < plan.size; i++) {
            int move = plan.get(i);
            aside.bring(aside.canMove(move) ? move : NO_MOVE);
            aside.pass();
        }
        asked = aside.allWood();
        return aside.burning;
    }

    // ---- 5 striking, smoke

    public int where() {
        int places = 0;
        int longest = 0;
        int best = NONE;
        for (int h = 0; h < lane.houses; h++) {
            if (village.first.canStrike(h)) {
                places |= 1 << h;
                int hours = village.first.woodLasts(h);
                if (hours > longest) {
                    longest = hours;
                    best = h;
                }
            }
        }
        asked = best;
        return places;
    }

    public int smoke(int r) {
        if (!isRow(r)) {
            return BAD;
        }
        if (lane.isEmpty()) {
            return STATE;
        }
        int wrong = rows[r].lacksSizeOrRange(1, BOOK_SETS, lane.allHouses());
        if (wrong != 0) {
            return found(wrong);
        }
        smoke.search(village.first, rows[r]);
        asked = smoke.origins;
        tell(smoke.fitting, 1);
        return 1;
    }

    public int hides(int r, int seen) {
        if (!isRow(r) || seen < 0 || seen > lane.allHouses()) {
            return BAD;
        }
        if (lane.isEmpty()) {
            return STATE;
        }
        Row book = rows[r];
        int wrong = book.lacksSizeOrRange(1, BOOK_SETS, lane.allHouses());
        if (wrong != 0) {
            return found(wrong);
        }
        int hidden = book.union() & ~seen;
        for (int h = 0; h < lane.houses; h++) {
            if ((hidden >> h & 1) != 0) {
                return h;
            }
        }
        return NONE;
    }

    public int spring(int h, int n) {
        if (!lane.has(h) || n < 0 || n > SPRING_HOURS) {
            return BAD;
        }
        return village.now.woodFor(h, n);
    }

    // ---- 6 chances, lots

    public int odds(int h, int r, int p) {
        if (!lane.has(h) || !isRow(r) || p < 0 || p > TWELVE) {
            return BAD;
        }
        int wrong = rows[r].lacksSizeOrRange(0, ODDS_MOVES, NO_MOVE);
        if (wrong != 0) {
            return found(wrong);
        }
        odds.reckon(village.now, h, rows[r], p);
        tell(odds.cases, odds.allCases);
        return 1;
    }

    public int lots(int n, int seed) {
        if (n < 1 || n > LOTS_HOURS || seed < 1 || seed >= LOT_MODULUS) {
            return BAD;
        }
        if (lane.isEmpty()) {
            return STATE;
        }
        if (!village.hasRoom(2 * n)) {
            return FULL;
        }
        int lot = seed;
        for (int i = 0; i < n; i++) {
            lot = (int) ((long) lot * LOT_FACTOR % LOT_MODULUS);
            carryByLot(lot);
            village.act(NO_MOVE);
        }
        return village.now.alight();
    }

    // ---- 7 what is told

    public int asked() {
        return asked;
    }

    public long upper() {
        return upper;
    }

    public long lower() {
        return lower;
    }

    public int count(int what) {
        if (what < 0 || what >= COUNTS) {
            return BAD;
        }
        return countOf(what);
    }

    public int finding() {
        return finding;
    }

    public int findings(int f) {
        if (f < NOTHING || f > SIZE) {
            return BAD;
        }
        return findings[f];
    }

    public long digest() {
        long h = 17;
        for (int what = 0; what < COUNTS; what++) {
            h = 31 * h + countOf(what);
        }
        for (int i = 0; i < lane.houses; i++) {
            for (int what = 0; what < HOUSE_FACTS; what++) {
                h = 31 * h + factOf(i, what);
            }
        }
        for (int k = 0; k < KEPT; k++) {
            h = 31 * h + (kept[k].isThere ? kept[k].done : MISSING);
        }
        for (int r = 0; r < ROWS; r++) {
            h = rows[r].digestOnto(h);
        }
        for (int t = 0; t < TEXTS; t++) {
            h = texts[t].digestOnto(h);
        }
        return h;
    }

    // ---- helpers of the calls

    private static boolean isRow(int r) {
        return r >= 0 && r < ROWS;
    }

    private static boolean isText(int t) {
        return t >= 0 && t < TEXTS;
    }

    private static boolean isKeepingPlace(int k) {
        return k >= 0 && k < KEPT;
    }

    private static boolean isAhead(int n) {
        return n >= 0 && n <= HOURS_AHEAD;
    }

    /** Notes a FINDING (NOTHING .. SIZE): what the call answers then. */
    private int found(int what) {
        if (what >= NOTHING && what <= SIZE) {
            finding = what;
            findings[what]++;
        }
        return FINDING;
    }

    /** Tells two numbers in lowest terms. */
    private void tell(long above, long below) {
        long common = commonDivisor(above, below);
        if (common <= 0) {
            return;
        }
        upper = above / common;
        lower = below / common;
    }

    private static long commonDivisor(long a, long b) {
        long big = a;
        long small = b;
        // Euclid's steps on longs are fewer than a hundred
        for (int step = 0; step < 100 && small != 0; step++) {
            long rest = big % small;
            big = small;
            small = rest;
        }
        return big;
    }

    private int factOf(int h, int what) {
        Fire now = village.now;
        switch (what) {
            case 0:
                return lane.kindOf(h);
            case 1:
                return now.woodOf(h);
            case 2:
                return now.wetOf(h);
            case 3:
                return lane.needOf(h);
            case 4:
                return now.burns(h) ? 1 : 0;
            default:
                return now.catches(h) ? 1 : 0;
        }
    }

    private int markOf(int h, int kind) {
        Fire now = village.now;
        switch (kind) {
            case Kinds.PEAT:
                return now.woodFor(h, MARK_HOURS);
            case Kinds.STOVE:
                return Kinds.WETTEST - Kinds.dampest(lane.kindOf(h));
            case Kinds.DRAUGHT:
                return (now.woodOf(h) + 1) / 2;
            case Kinds.POT:
                return (4 - now.hour % 4) % 4;
            default:
                return now.wetBeside(h);
        }
    }

    private int countOf(int what) {
        switch (what) {
            case 0:
                return lane.houses;
            case 1:
                return village.now.hour;
            case 2:
                return village.now.struck ? 1 : 0;
            case 3:
                return village.done;
            case 4:
                return village.now.allWood();
            case 5:
                return lane.countOf(Kinds.PEAT);
            case 6:
                return rowsThere();
            case 7:
                return textsThere();
            default:
                return keptThere();
        }
    }

    private int rowsThere() {
        int there = 0;
        for (int r = 0; r < ROWS; r++) {
            there += rows[r].isThere() ? 1 : 0;
        }
        return there;
    }

    private int textsThere() {
        int there = 0;
        for (int t = 0; t < TEXTS; t++) {
            there += texts[t].isThere() ? 1 : 0;
        }
        return there;
    }

    private int keptThere() {
        int there = 0;
        for (int k = 0; k < KEPT; k++) {
            there += kept[k].isThere ? 1 : 0;
        }
        return there;
    }

    /** The PLAN that was searched for comes to a ROW: how many EMBERS it CARRIES, or NONE. */
    private int planInto(Row row) {
        if (!plans.isFound()) {
            return NONE;
        }
        row.begin(plans.hours);
        int carried = 0;
        for (int i = 0; i < plans.hours; i++) {
            row.set(i, plans.bestMove(i));
            carried += plans.bestMove(i) == NO_MOVE ? 0 : 1;
        }
        return carried;
    }

    private void carryByLot(int lot) {
        if (lane.isEmpty()) {
            return;
        }
        int from = lot % lane.houses;
        int to = lot / LOT_SHARE % lane.houses;
        if (village.now.canCarry(from, to)) {
            village.act(MOVE_BASE * from + to);
        }
    }

    /** A ROW of ints that is there or missing. */
    private static final class Row {
        final int[] places = new int[MOST_PLACES];
        int size = MISSING;

        boolean isThere() {
            return size >= 0;
        }

        boolean has(int i) {
            return i >= 0 && i < size;
        }

        boolean hasSpan(int i, int n) {
            return i >= 0 && n >= 0 && i <= size - n;
        }

        void begin(int n) {
            if (n < 0 || n > MOST_PLACES) {
                return;
            }
            size = n;
            for (int i = 0; i < n; i++) {
                places[i] = 0;
            }
        }

        void end() {
            size = MISSING;
        }

        int get(int i) {
            return has(i) ? places[i] : 0;
        }

        void set(int i, int v) {
            if (has(i)) {
                places[i] = v;
            }
        }

        /** The FINDING for a place of this ROW; 0: none. */
        int lacks(int i) {
            if (!isThere()) {
                return NOTHING;
            }
            return has(i) ? 0 : BEYOND;
        }

        /** The FINDING for a ROW that is due to have fewest to most numbers 0 .. highest; 0: none. */
        int lacksSizeOrRange(int fewest, int most, int highest) {
            if (!isThere()) {
                return NOTHING;
            }
            if (size < fewest || size > most) {
                return SIZE;
            }
            for (int i = 0; i < size; i++) {
                if (places[i] < 0 || places[i] > highest) {
                    return UNLIKE;
                }
            }
            return 0;
        }

        long sum() {
            long sum = 0;
            for (int i = 0; i < size; i++) {
                sum += places[i];
            }
            return sum;
        }

        int union() {
            int union = 0;
            for (int i = 0; i < size; i++) {
                union |= places[i];
            }
            return union;
        }

        long digestOnto(long start) {
            long h = 31 * start + size;
            for (int i = 0; i < size; i++) {
                h = 31 * h + places[i];
            }
            return h;
        }
    }

    /** A TEXT of bytes that is there or missing. */
    private static final class Text {
        static final int END = 1000;

        private final byte[] bytes = new byte[MOST_BYTES];
        int size = MISSING;

        boolean isThere() {
            return size >= 0;
        }

        boolean has(int i) {
            return i >= 0 && i < size;
        }

        void begin(int n) {
            if (n < 0 || n > MOST_BYTES) {
                return;
            }
            size = n;
            for (int i = 0; i < n; i++) {
                bytes[i] = BLANK;
            }
        }

        /** The byte at a place; END, which no byte is, where there is none. */
        int get(int i) {
            return has(i) ? bytes[i] : END;
        }

        void set(int i, int v) {
            if (has(i)) {
                bytes[i] = (byte) v;
            }
        }

        long digestOnto(long start) {
            long h = 31 * start + size;
            for (int i = 0; i < size; i++) {
                h = 31 * h + bytes[i];
            }
            return h;
        }
    }

    /** What the KINDS of HOUSES differ in. */
    private static final class Kinds {
        static final int HOUSE = 0, PEAT = 1, STOVE = 2, DRAUGHT = 3, POT = 4, TILE = 5;
        static final int WETTEST = 3;

        private Kinds() {
        }

        static int byLetter(int letter) {
            switch (letter) {
                case 'h':
                    return HOUSE;
                case 'p':
                    return PEAT;
                case 's':
                    return STOVE;
                case 'd':
                    return DRAUGHT;
                case 't':
                    return POT;
                case 'i':
                    return TILE;
                default:
                    return NONE;
            }
        }

        static boolean isOf(int kind, int other) {
            return kind == other || other == HOUSE || kind == POT && other == PEAT || kind == TILE && other == STOVE;
        }

        /** The WOOD that one which BURNS takes in an HOUR, had it enough. */
        static int takes(int kind, int hour) {
            switch (kind) {
                case DRAUGHT:
                    return 2;
                case PEAT:
                    return hour % 2 == 0 ? 1 : 0;
                case POT:
                    return hour % 4 == 0 ? 1 : 0;
                default:
                    return 1;
            }
        }

        /** The most WET with which one CATCHES. */
        static int dampest(int kind) {
            switch (kind) {
                case STOVE:
                    return 1;
                case TILE:
                    return WETTEST;
                default:
                    return 0;
            }
        }
    }

    /** What stays the same in a VILLAGE: its HOUSES' KINDS and needs along the lane, and the WINDS. */
    private static final class Lane {
        private final int[] kinds = new int[MOST_HOUSES];
        private final int[] needs = new int[MOST_HOUSES];
        private final int[] winds = new int[MOST_WINDS];
        private int windCount = 0;
        int houses = 0;

        void clear() {
            houses = 0;
            windCount = 0;
        }

        boolean isEmpty() {
            return houses <= 0;
        }

        boolean isFull() {
            return houses >= MOST_HOUSES;
        }

        boolean has(int h) {
            return h >= 0 && h < houses;
        }

        int allHouses() {
            return (1 << houses) - 1;
        }

        boolean hasWinds() {
            return windCount > 0;
        }

        boolean hasAllWinds() {
            return windCount >= MOST_WINDS;
        }

        void addWind(int wind) {
            if (!hasAllWinds()) {
                winds[windCount] = wind;
                windCount++;
            }
        }

        void addHouse(int kind, int need) {
            if (!isFull()) {
                kinds[houses] = kind;
                needs[houses] = need;
                houses++;
            }
        }

        int kindOf(int h) {
            return has(h) ? kinds[h] : Kinds.HOUSE;
        }

        int needOf(int h) {
            return has(h) ? needs[h] : NONE;
        }

        int windAt(int hour) {
            return hour < 0 || !hasWinds() ? 0 : winds[hour % windCount];
        }

        int countOf(int kind) {
            int count = 0;
            for (int h = 0; h < houses; h++) {
                count += Kinds.isOf(kinds[h], kind) ? 1 : 0;
            }
            return count;
        }
    }

    /** What changes in a VILLAGE by DEEDS. */
    private static final class Fire {
        /** No WOOD lasts so long: 9 in a POT are gone behind 36 HOURS. */
        private static final int LONG_ENOUGH = 64;

        private final Lane lane;
        private final int[] wood = new int[MOST_HOUSES];
        private final int[] wet = new int[MOST_HOUSES];
        int burning = 0;
        int hour = 0;
        boolean struck = false;
        private boolean carried = false;

        Fire(Lane lane) {
            this.lane = lane;
        }

        void clear() {
            burning = 0;
            hour = 0;
            struck = false;
            carried = false;
        }

        void become(Fire other) {
            for (int h = 0; h < MOST_HOUSES; h++) {
                wood[h] = other.wood[h];
                wet[h] = other.wet[h];
            }
            burning = other.burning;
            hour = other.hour;
            struck = other.struck;
            carried = other.carried;
        }

        void furnish(int h, int woods, int wets) {
            if (h >= 0 && h < MOST_HOUSES) {
                wood[h] = woods;
                wet[h] = wets;
            }
        }

        int woodOf(int h) {
            return lane.has(h) ? wood[h] : 0;
        }

        int wetOf(int h) {
            return lane.has(h) ? wet[h] : 0;
        }

        int allWood() {
            int all = 0;
            for (int h = 0; h < lane.houses; h++) {
                all += wood[h];
            }
            return all;
        }

        boolean burns(int h) {
            return lane.has(h) && (burning >> h & 1) != 0;
        }

        boolean catches(int h) {
            return lane.has(h) && wood[h] > 0 && wet[h] <= Kinds.dampest(lane.kinds[h]);
        }

        int catching() {
            int set = 0;
            for (int h = 0; h < lane.houses; h++) {
                set |= catches(h) ? 1 << h : 0;
            }
            return set;
        }

        int alight() {
            return Integer.bitCount(burning);
        }

        boolean canStrike(int h) {
            return !struck && catches(h);
        }

        boolean canCarry(int from, int to) {
            return !carried && burns(from) && lane.has(to) && !burns(to)
                    && Math.abs(from - to) <= CALM_REACH - lane.windAt(hour) && catches(to);
        }

        boolean canMove(int move) {
            return move >= 0 && move < NO_MOVE && canCarry(move / MOVE_BASE, move % MOVE_BASE);
        }

        int reachable() {
            int set = 0;
            for (int move = 0; move < NO_MOVE; move++) {
                set |= canMove(move) ? 1 << move % MOVE_BASE : 0;
            }
            return set;
        }

        /** The match is STRUCK in a HOUSE where it can be. */
        void light(int h) {
            struck = true;
            burning |= 1 << h;
        }

        /** EMBERS are CARRIED by a MOVE that can be, or is none. */
        void bring(int move) {
            if (move != NO_MOVE) {
                carried = true;
                burning |= 1 << move % MOVE_BASE;
            }
        }

        /** An HOUR goes by. Who dries is told by what burnt ahead of its end, whatever goes out at it. */
        void pass() {
            int burnt = burning;
            for (int h = 0; h < lane.houses; h++) {
                if ((burnt >> h & 1) != 0) {
                    feed(h);
                } else if ((burnt & beside(h)) != 0) {
                    wet[h] = Math.max(0, wet[h] - 1);
                }
            }
            hour++;
            carried = false;
        }

        private void feed(int h) {
            if (h < 0 || h >= MOST_HOUSES) {
                return;
            }
            wood[h] = Math.max(0, wood[h] - Kinds.takes(lane.kinds[h], hour));
            if (wood[h] == 0) {
                burning &= ~(1 << h);
            }
        }

        private static int beside(int h) {
            return 1 << h >> 1 | 1 << h + 1;
        }

        /** A DEED is done that can be. */
        void act(int deed) {
            if (deed >= STRIKING) {
                light(deed - STRIKING);
            } else if (deed == NO_MOVE) {
                pass();
            } else {
                bring(deed);
            }
        }

        int wetBeside(int h) {
            return (wetOf(h - 1) > 0 ? 1 : 0) + (wetOf(h + 1) > 0 ? 1 : 0);
        }

        int woodFor(int h, int hours) {
            int needed = 0;
            for (int i = 0; i < hours; i++) {
                needed += Kinds.takes(lane.kindOf(h), hour + i);
            }
            return needed;
        }

        /** For how many HOURS from this one on its WOOD keeps a HOUSE burning. */
        int woodLasts(int h) {
            int left = woodOf(h);
            int hours = 0;
            while (left > 0 && hours < LONG_ENOUGH) {
                left -= Kinds.takes(lane.kindOf(h), hour + hours);
                hours++;
            }
            return hours;
        }

        int burnsOn(int h) {
            return burns(h) ? woodLasts(h) : 0;
        }

        /** How many BURN at the end of the HOUR that is so many on, if nothing is CARRIED. */
        int alightAfter(int hours) {
            int count = 0;
            for (int h = 0; h < lane.houses; h++) {
                count += burnsOn(h) > hours ? 1 : 0;
            }
            return count;
        }

        /** Whether each HOUSE BURNS that NEEDS fire in this HOUR. */
        boolean servesHour() {
            for (int h = 0; h < lane.houses; h++) {
                if (lane.needs[h] == hour && (burning >> h & 1) == 0) {
                    return false;
                }
            }
            return true;
        }
    }

    /** A VILLAGE as it was at first, as it is now, and the DEEDS between. */
    private static final class Campaign {
        final Fire first;
        final Fire now;
        private final int[] deeds = new int[MOST_DEEDS];
        int done = 0;
        boolean isThere = false;

        Campaign(Lane lane) {
            first = new Fire(lane);
            now = new Fire(lane);
        }

        void begin() {
            isThere = true;
            done = 0;
            now.become(first);
        }

        void leave() {
            isThere = false;
        }

        void become(Campaign other) {
            isThere = other.isThere;
            done = other.done;
            first.become(other.first);
            now.become(other.now);
            System.arraycopy(other.deeds, 0, deeds, 0, MOST_DEEDS);
        }

        void restack(int h, int woods) {
            first.furnish(h, woods, first.wetOf(h));
            now.furnish(h, woods, now.wetOf(h));
        }

        boolean hasRoom(int more) {
            return done + more <= MOST_DEEDS;
        }

        void act(int deed) {
            if (done >= 0 && done < MOST_DEEDS) {
                deeds[done] = deed;
                done++;
                now.act(deed);
            }
        }

        /** Undoes the DEEDS from number n on, by doing the others anew: how many. */
        int goBack(int n) {
            int undone = done - n;
            done = n;
            now.become(first);
            for (int i = 0; i < n && i < MOST_DEEDS; i++) {
                now.act(deeds[i]);
            }
            return undone;
        }
    }

    /** Reads a VILLAGE from a TEXT. */
    private static final class Reader {
        /** The FAULT of a TEXT or NONE; without one, the lane and its first state are those of the TEXT. */
        int read(Text text, Lane lane, Fire first) {
            lane.clear();
            first.clear();
            int place = skipBlanks(text, 0);
            if (text.get(place) != 'v') {
                return place;
            }
            place = readWinds(text, place + 1, lane);
            if (!lane.hasWinds()) {
                return place;
            }
            place = skipBlanks(text, place);
            for (int i = 0; i < MOST_HOUSES && text.has(place); i++) {
                int wrong = faultOfHouse(text, place);
                if (wrong != NONE) {
                    return wrong;
                }
                addHouse(text, place, lane, first);
                place = skipBlanks(text, place + 4);
            }
            return text.has(place) || lane.isEmpty() ? place : NONE;
        }

        private static int skipBlanks(Text text, int start) {
            int place = start;
            while (place < text.size && text.get(place) == BLANK) {
                place++;
            }
            return place;
        }

        private static int readWinds(Text text, int start, Lane lane) {
            int place = start;
            while (place < text.size && !lane.hasAllWinds() && isFigure(text.get(place), 2)) {
                lane.addWind(text.get(place) - '0');
                place++;
            }
            return place;
        }

        private static int faultOfHouse(Text text, int place) {
            if (Kinds.byLetter(text.get(place)) == NONE) {
                return place;
            }
            if (!isFigure(text.get(place + 1), MOST_WOOD)) {
                return place + 1;
            }
            if (!isFigure(text.get(place + 2), Kinds.WETTEST)) {
                return place + 2;
            }
            if (text.get(place + 3) != '-' && !isFigure(text.get(place + 3), 9)) {
                return place + 3;
            }
            return NONE;
        }

        private static void addHouse(Text text, int place, Lane lane, Fire first) {
            int need = text.get(place + 3);
            first.furnish(lane.houses, text.get(place + 1) - '0', text.get(place + 2) - '0');
            lane.addHouse(Kinds.byLetter(text.get(place)), need == '-' ? NONE : need - '0');
        }

        private static boolean isFigure(int sign, int highest) {
            return sign >= '0' && sign <= '0' + highest;
        }
    }

    /** Goes through all PLANS from a state on, the first ones first. */
    private static final class Plans {
        /** What is sought: nothing but the counts; a HOUSE that BURNS; most HOUSES; each when it NEEDS fire. */
        static final int COUNT = 0, HOUSE = 1, MOST = 2, NEEDS = 3;

        private final Fire[] levels = new Fire[HOURS_AHEAD + 1];
        private final int[] moves = new int[HOURS_AHEAD];
        private final int[] best = new int[HOURS_AHEAD];
        private int goal = COUNT;
        private int wanted = 0;
        int hours = 0;
        /** How well the best PLAN does; -1: there is none. */
        int rank = -1;
        int all = 0;
        int fitting = 0;
        int ever = 0;

        Plans(Lane lane) {
            for (int i = 0; i <= HOURS_AHEAD; i++) {
                levels[i] = new Fire(lane);
            }
        }

        void search(Fire from, int n, int what, int house) {
            hours = Math.max(0, Math.min(n, HOURS_AHEAD));
            goal = what;
            wanted = house;
            rank = -1;
            all = 0;
            fitting = 0;
            ever = 0;
            levels[0].become(from);
            walk(0);
        }

        boolean isFound() {
            return rank >= 0;
        }

        int bestMove(int i) {
            return i >= 0 && i < HOURS_AHEAD ? best[i] : NO_MOVE;
        }

        private void walk(int depth) {
            if (depth < 0 || depth > HOURS_AHEAD) {
                return;
            }
            Fire here = levels[depth];
            if (depth >= hours) {
                weigh(here);
                return;
            }
            for (int move = 0; move <= NO_MOVE && !isOver(); move++) {
                if (move == NO_MOVE || here.canMove(move)) {
                    take(depth, move);
                }
            }
        }

        /** Goes on behind a MOVE that can be in the HOUR of a depth. */
        private void take(int depth, int move) {
            if (depth < 0 || depth >= HOURS_AHEAD) {
                return;
            }
            Fire next = levels[depth + 1];
            next.become(levels[depth]);
            next.bring(move);
            if (goal == NEEDS && !next.servesHour()) {
                return;
            }
            next.pass();
            moves[depth] = move;
            walk(depth + 1);
        }

        /** The first PLAN that serves ends the search, where no later one can be better. */
        private boolean isOver() {
            return isFound() && (goal == HOUSE || goal == NEEDS);
        }

        private void weigh(Fire end) {
            all++;
            ever |= end.burning;
            fitting += end.burns(wanted) ? 1 : 0;
            int reached = rankOf(end);
            if (reached > rank) {
                rank = reached;
                System.arraycopy(moves, 0, best, 0, HOURS_AHEAD);
            }
        }

        private int rankOf(Fire end) {
            switch (goal) {
                case HOUSE:
                    return end.burns(wanted) ? 0 : -1;
                case MOST:
                    return end.alight();
                case NEEDS:
                    return end.servesHour() ? 0 : -1;
                default:
                    return -1;
            }
        }
    }

    /** Finds the ways in which a book of smoke can have come about. */
    private static final class Smoke {
        private final Lane lane;
        private final Fire[] levels = new Fire[BOOK_SETS + 1];
        private Row book = null;
        int fitting = 0;
        int origins = 0;

        Smoke(Lane lane) {
            this.lane = lane;
            for (int i = 0; i <= BOOK_SETS; i++) {
                levels[i] = new Fire(lane);
            }
        }

        void search(Fire first, Row sets) {
            book = sets;
            fitting = 0;
            origins = 0;
            for (int h = 0; h < lane.houses; h++) {
                if (first.canStrike(h)) {
                    int before = fitting;
                    levels[0].become(first);
                    levels[0].light(h);
                    walk(0);
                    origins |= fitting > before ? 1 << h : 0;
                }
            }
        }

        private void walk(int depth) {
            if (book == null || depth < 0 || depth > BOOK_SETS) {
                return;
            }
            if (depth >= book.size) {
                fitting++;
                return;
            }
            for (int move = 0; move <= NO_MOVE; move++) {
                if (move == NO_MOVE || levels[depth].canMove(move)) {
                    take(depth, move);
                }
            }
        }

        private void take(int depth, int move) {
            if (book == null || depth < 0 || depth >= BOOK_SETS) {
                return;
            }
            Fire next = levels[depth + 1];
            next.become(levels[depth]);
            next.bring(move);
            next.pass();
            if (next.burning == book.get(depth)) {
                walk(depth + 1);
            }
        }
    }

    /** Reckons the chances of a PLAN whose EMBERS may go out on the way. */
    private static final class Odds {
        private final Fire[] levels = new Fire[ODDS_MOVES + 1];
        private Row plan = null;
        private int wanted = 0;
        private int lost = 0;
        long cases = 0;
        long allCases = 1;

        Odds(Lane lane) {
            for (int i = 0; i <= ODDS_MOVES; i++) {
                levels[i] = new Fire(lane);
            }
        }

        void reckon(Fire from, int house, Row moves, int p) {
            plan = moves;
            wanted = house;
            lost = p;
            allCases = 1;
            for (int i = 0; i < moves.size; i++) {
                allCases *= TWELVE;
            }
            levels[0].become(from);
            cases = casesFrom(0);
        }

        /** In how many cases, 12 for each MOVE from a depth on, the HOUSE BURNS behind the PLAN. */
        private long casesFrom(int depth) {
            if (plan == null || depth < 0 || depth > ODDS_MOVES) {
                return 0;
            }
            if (depth >= plan.size) {
                return levels[depth].burns(wanted) ? 1 : 0;
            }
            int move = plan.get(depth);
            if (!levels[depth].canMove(move)) {
                return TWELVE * casesBehind(depth, NO_MOVE);
            }
            return lost * casesBehind(depth, NO_MOVE) + (TWELVE - lost) * casesBehind(depth, move);
        }

        private long casesBehind(int depth, int move) {
            if (depth < 0 || depth >= ODDS_MOVES) {
                return 0;
            }
            Fire next = levels[depth + 1];
            next.become(levels[depth]);
            next.bring(move);
            next.pass();
            return casesFrom(depth + 1);
        }
    }
}
