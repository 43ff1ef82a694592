/**
 * A firm that buries things so that they are never found: rows of numbers, a mine told in a text,
 * years and other acts that can be undone, what is foretold of the mine, and what its things are asked.
 */
public final class BuriedHalves {
    public static final int NONE = -1000000, BAD = -1000001, STATE = -1000002, FULL = -1000003;

    private static final int FINDINGS = -1000010;
    private static final int FAULTS = -1000100;

    private static final int FOUND_NULL = 1;
    private static final int FOUND_PLACE = 2;
    private static final int FOUND_KIND = 3;
    private static final int FOUND_SIZE = 4;
    private static final int FOUND_STORE = 5;

    private static final int ROOM_FOR_ROWS = 8;
    private static final int ROOM_FOR_ITEMS = 40;
    private static final int ROOM_FOR_BYTES = 100;
    private static final int ROOM_FOR_THINGS = 5;
    private static final int ROOM_FOR_ACTS = 24;
    private static final int ROOM_FOR_TRACE = 16;
    private static final int IMAGES = 2;

    private static final int LANES = 3;
    private static final int BYTES = 0;
    private static final int SHORTS = 1;
    private static final int MISSING = -1;

    private static final int PLACES = 4;
    private static final int DEEPEST = 40;
    private static final int SLOWEST = 9;
    private static final int MOST_MEN = 6;
    private static final int WIDEST_NEAR = 9;

    private static final int MOST_YEARS = 24;
    private static final int LAST_YEAR = 999;
    private static final int FORETOLD = 60;
    private static final int FAR_FORETOLD = 99;
    private static final int MOST_TOLD = 16;
    private static final int TENTHS = 10;

    private static final int ANY = 0;
    private static final int IRON = 1;
    private static final int CLAY = 2;
    private static final int WOOD = 3;
    private static final int STONE = 4;
    private static final int GRAVE = 5;

    private static final int FIT_SORTS = 0;
    private static final int FIT_SLOWS = 1;
    private static final int FIT_LAIN = 2;

    private final Rows rows = new Rows();
    private final Text text = new Text();
    private final Mine now = new Mine();
    private final Mine draft = new Mine();
    private final Acts acts = new Acts();
    private final Mine[] images = new Mine[IMAGES];
    private final Seer seer = new Seer();
    private final Layer layer = new Layer();
    private final Asker asker = new Asker();
    private int latestFault = 0;
    private int latestFinding = 0;

    public BuriedHalves() {
        for (int k = 0; k < IMAGES; k++) {
            images[k] = new Mine();
        }
    }

    // ---- rows

    public int row(int row, int lane, int n) {
        if (!isRow(row) || lane < 0 || lane >= LANES || n > ROOM_FOR_ITEMS) {
            return BAD;
        }
        if (n < 0) {
            return found(FOUND_SIZE);
        }
        rows.makeAnew(row, lane, n);
        return fine(n);
    }

    public int set(int row, int i, int v) {
        if (!isRow(row)) {
            return BAD;
        }
        if (rows.isMissing(row)) {
            return found(FOUND_NULL);
        }
        if (!rows.hasRun(row, i, 1)) {
            return found(FOUND_PLACE);
        }
        return fine(rows.put(row, i, v));
    }

    public int copy(int a, int i, int b, int j, int n) {
        if (!isRow(a) || !isRow(b)) {
            return BAD;
        }
        if (rows.isMissing(a) || rows.isMissing(b)) {
            return found(FOUND_NULL);
        }
        if (rows.lane[a] != rows.lane[b]) {
            return found(FOUND_STORE);
        }
        if (!rows.hasRun(a, i, n) || !rows.hasRun(b, j, n)) {
            return found(FOUND_PLACE);
        }
        System.arraycopy(rows.items[a], i, rows.items[b], j, n);
        return fine(n);
    }

    public int drop(int row) {
        if (!isRow(row)) {
            return BAD;
        }
        if (rows.isMissing(row)) {
            return found(FOUND_NULL);
        }
        int had = rows.length[row];
        rows.length[row] = MISSING;
        return fine(had);
    }

    // ---- mines, acts

    public int feed(int letter) {
        if (letter < 0 || letter > 255) {
            return BAD;
        }
        if (text.length >= ROOM_FOR_BYTES) {
            return FULL;
        }
        text.append(letter);
        return text.length;
    }

    public int mine() {
        int fault = text.readInto(draft);
        text.length = 0;
        if (fault != 0) {
            latestFault = fault;
            return FAULTS - text.at;
        }
        now.become(draft);
        acts.forgetAll();
        return now.things;
    }

    public int fault() {
        return latestFault;
    }

    public int years(int n) {
        if (!now.isThere) {
            return STATE;
        }
        if (n < 1 || n > MOST_YEARS) {
            return BAD;
        }
        if (now.year + n > LAST_YEAR) {
            return FULL;
        }
        for (int y = 0; y < n; y++) {
            acts.keep(now);
            now.passYear();
        }
        return now.allUp();
    }

    public int bury(int thing, int place, int depth) {
        if (!isThing(thing) || place < 0 || place >= PLACES || depth < 1 || depth > DEEPEST) {
            return BAD;
        }
        acts.keep(now);
        now.dug += now.depth[thing] + depth;
        now.place[thing] = place;
        now.depth[thing] = depth;
        return now.dug;
    }

    public int tell(int thing, int man, int on) {
        if (!isThing(thing) || !isMan(man) || on < 0 || on > 1) {
            return BAD;
        }
        if (((now.known[thing] >> man) & 1) == on) {
            return STATE;
        }
        acts.keep(now);
        now.known[thing] ^= 1 << man;
        return now.known[thing];
    }

    public int undo() {
        if (acts.size == 0) {
            return STATE;
        }
        acts.takeBack(now);
        return acts.size;
    }

    public int thing(int thing, int what) {
        if (!isThing(thing)) {
            return BAD;
        }
        switch (what) {
            case 0: return now.depth[thing];
            case 1: return now.place[thing];
            case 2: return now.slow[thing];
            case 3: return now.known[thing];
            case 4: return now.nearTo(thing);
            case 5: return now.riseOf(thing);
            default: return BAD;
        }
    }

    public int knows(int man) {
        return isMan(man) ? now.knownTo(man) : BAD;
    }

    // ---- foretold

    public int ahead(int thing, int d) {
        if (!isThing(thing) || !isForetold(d)) {
            return BAD;
        }
        return seer.behind(now, d).depth[thing];
    }

    public int up(int d) {
        if (!now.isThere) {
            return STATE;
        }
        return isForetold(d) ? seer.behind(now, d).allUp() : BAD;
    }

    public int comesUp(int thing) {
        return isThing(thing) ? seer.yearsUntilUp(now, thing) : BAD;
    }

    public int first(int what) {
        if (!now.isThere) {
            return STATE;
        }
        return isOneOfTwo(what) ? seer.firstUp(now, what == 0) : BAD;
    }

    public int trouble(int what) {
        if (!now.isThere) {
            return STATE;
        }
        return isOneOfTwo(what) ? seer.firstTrouble(now, what == 0) : BAD;
    }

    public int lay(int d, int k) {
        if (!now.isThere) {
            return STATE;
        }
        if (!isForetold(d) || k < -1 || k >= ROOM_FOR_THINGS) {
            return BAD;
        }
        layer.find(now, d);
        if (layer.moved == NONE || k >= now.things) {
            return NONE;
        }
        return k == -1 ? layer.moved : layer.places[k];
    }

    public int dig(int thing, int d) {
        if (!isThing(thing) || !isForetold(d)) {
            return BAD;
        }
        return seer.leastDepth(now, thing, d);
    }

    public int whom(int what) {
        if (!now.isThere) {
            return STATE;
        }
        if (!isOneOfTwo(what)) {
            return BAD;
        }
        int men = now.fewestWhoKnowAll();
        if (men == NONE) {
            return NONE;
        }
        return what == 0 ? Integer.bitCount(men) : men;
    }

    public int halves(int what) {
        if (!now.isThere) {
            return STATE;
        }
        if (!isOneOfTwo(what)) {
            return BAD;
        }
        return what == 0 ? now.countHalves() : now.firstHalves();
    }

    public int fits(int thing, int row, int i, int n, int what) {
        if (!isThing(thing) || !isRow(row) || n < 1 || n > MOST_TOLD || what < FIT_SORTS || what > FIT_LAIN) {
            return BAD;
        }
        if (rows.isMissing(row)) {
            return found(FOUND_NULL);
        }
        if (!rows.hasRun(row, i, n)) {
            return found(FOUND_PLACE);
        }
        rows.readRun(row, i, n, seer.told);
        return fine(seer.thatFit(now, thing, n, what));
    }

    public int moles(int d, int c, int what) {
        if (!now.isThere) {
            return STATE;
        }
        if (!isForetold(d) || c < 0 || c > TENTHS || !isOneOfTwo(what)) {
            return BAD;
        }
        int above = seer.weightOfNoneUp(now, d, c);
        int below = seer.weightOfAll(now);
        int common = commonDivisor(above, below);
        if (common < 1) {
            return NONE;
        }
        return (what == 0 ? above : below) / common;
    }

    public int image(int k) {
        if (!isImage(k)) {
            return BAD;
        }
        if (!now.isThere) {
            return STATE;
        }
        images[k].become(now);
        return 1;
    }

    public int restore(int k) {
        if (!isImage(k)) {
            return BAD;
        }
        if (!images[k].isThere) {
            return STATE;
        }
        now.become(images[k]);
        acts.forgetAll();
        return 1;
    }

    // ---- asked

    public int kind(int thing) {
        return isThing(thing) ? now.sort[thing] : BAD;
    }

    public int as(int thing, int kind) {
        if (!isThing(thing) || kind < ANY || kind > GRAVE) {
            return BAD;
        }
        return isOfKind(now.sort[thing], kind) ? fine(thing) : found(FOUND_KIND);
    }

    public int ask(int thing, int what) {
        if (!isThing(thing) || !isOneOfTwo(what)) {
            return BAD;
        }
        return asker.begin(now, thing, what);
    }

    public int trace(int i) {
        return i >= 0 && i < asker.traced ? asker.numbers[i] : NONE;
    }

    public int count(int what) {
        switch (what) {
            case 0: return rows.countThere();
            case 1: return now.things;
            case 2: return now.men;
            case 3: return now.year;
            case 4: return now.near;
            case 5: return now.dug;
            case 6: return acts.size;
            case 7: return text.length;
            default: return BAD;
        }
    }

    public int status() {
        return latestFinding;
    }

    private int found(int number) {
        latestFinding = number;
        return FINDINGS - number;
    }

    private int fine(int answer) {
        latestFinding = 0;
        return answer;
    }

    private boolean isThing(int thing) {
        return thing >= 0 && thing < now.things;
    }

    private boolean isMan(int man) {
        return man >= 0 && man < now.men;
    }

    private static boolean isRow(int row) {
        return row >= 0 && row < ROOM_FOR_ROWS;
    }

    private static boolean isImage(int k) {
        return k >= 0 && k < IMAGES;
    }

    private static boolean isForetold(int d) {
        return d >= 0 && d <= FORETOLD;
    }

    private static boolean isOneOfTwo(int what) {
        return what == 0 || what == 1;
    }

    private static int kindAbove(int kind) {
        switch (kind) {
            case CLAY: return IRON;
            case WOOD: return IRON;
            case GRAVE: return STONE;
            default: return ANY;
        }
    }

    private static boolean isOfKind(int kind, int wanted) {
        int nearest = kind;
        for (int step = 0; step < GRAVE && nearest != wanted; step++) {
            nearest = kindAbove(nearest);
        }
        return nearest == wanted;
    }

    private static int leastOf(int bits) {
        for (int t = 0; t < ROOM_FOR_THINGS; t++) {
            if (((bits >> t) & 1) == 1) {
                return t;
            }
        }
        return NONE;
    }

    private static int commonDivisor(int a, int b) {
        int larger = a;
        int smaller = b;
        // Numbers up to 100000 need far fewer turns than this.
        for (int turn = 0; turn < 64 && smaller != 0; turn++) {
            int rest = larger % smaller;
            larger = smaller;
            smaller = rest;
        }
        return larger;
    }

    /** The rows of one object, made once; a missing one has no length. */
    private static final class Rows {
        final int[][] items = new int[ROOM_FOR_ROWS][ROOM_FOR_ITEMS];
        final int[] lane = new int[ROOM_FOR_ROWS];
        final int[] length = new int[ROOM_FOR_ROWS];

        Rows() {
            for (int row = 0; row < ROOM_FOR_ROWS; row++) {
                length[row] = MISSING;
            }
        }

        boolean isMissing(int row) {
            return length[row] == MISSING;
        }

        /** Whether n items from i on all stand in the row; a sum could wrap, so none is made. */
        boolean hasRun(int row, int i, int n) {
            return i >= 0 && n >= 0 && i <= length[row] && n <= length[row] - i;
        }

        void makeAnew(int row, int itsLane, int n) {
            lane[row] = itsLane;
            length[row] = n;
            for (int i = 0; i < n; i++) {
                items[row][i] = 0;
            }
        }

        int put(int row, int i, int v) {
            int kept = v;
            if (lane[row] == BYTES) {
                kept = (byte) v;
            } else if (lane[row] == SHORTS) {
                kept = (short) v;
            }
            items[row][i] = kept;
            return kept;
        }

        void readRun(int row, int i, int n, int[] told) {
            for (int k = 0; k < n; k++) {
                told[k] = items[row][i + k];
            }
        }

        int countThere() {
            int there = 0;
            for (int row = 0; row < ROOM_FOR_ROWS; row++) {
                if (!isMissing(row)) {
                    there++;
                }
            }
            return there;
        }
    }

    /** The things, the men and the law, as they are in one year. */
    private static final class Mine {
        boolean isThere = false;
        int things = 0;
        int men = 0;
        int near = 0;
        int year = 0;
        int dug = 0;
        final int[] sort = new int[ROOM_FOR_THINGS];
        final int[] depth = new int[ROOM_FOR_THINGS];
        final int[] place = new int[ROOM_FOR_THINGS];
        final int[] slow = new int[ROOM_FOR_THINGS];
        final int[] known = new int[ROOM_FOR_THINGS];
        private final int[] rises = new int[ROOM_FOR_THINGS];

        void become(Mine other) {
            isThere = other.isThere;
            things = other.things;
            men = other.men;
            near = other.near;
            year = other.year;
            dug = other.dug;
            for (int t = 0; t < ROOM_FOR_THINGS; t++) {
                sort[t] = other.sort[t];
                depth[t] = other.depth[t];
                place[t] = other.place[t];
                slow[t] = other.slow[t];
                known[t] = other.known[t];
            }
        }

        /** Whether all years ahead of both go alike; who knows what does not matter to them. */
        boolean foretellsLike(Mine other) {
            if (things != other.things || near != other.near || year != other.year) {
                return false;
            }
            for (int t = 0; t < things; t++) {
                if (sort[t] != other.sort[t] || depth[t] != other.depth[t]
                        || place[t] != other.place[t] || slow[t] != other.slow[t]) {
                    return false;
                }
            }
            return true;
        }

        boolean isUp(int t) {
            return depth[t] == 0;
        }

        int allUp() {
            int bits = 0;
            for (int t = 0; t < things; t++) {
                if (isUp(t)) {
                    bits |= 1 << t;
                }
            }
            return bits;
        }

        boolean areTooNear(int a, int b) {
            return !isUp(a) && !isUp(b)
                    && Math.abs(place[a] - place[b]) <= 1
                    && Math.abs(depth[a] - depth[b]) <= near;
        }

        int nearTo(int thing) {
            int bits = 0;
            for (int t = 0; t < things; t++) {
                if (t != thing && areTooNear(t, thing)) {
                    bits |= 1 << t;
                }
            }
            return bits;
        }

        /** 10 times the lesser, and the other one, of the first two that are too near; or NONE. */
        int firstTooNear() {
            for (int a = 0; a < things; a++) {
                for (int b = a + 1; b < things; b++) {
                    if (areTooNear(a, b)) {
                        return 10 * a + b;
                    }
                }
            }
            return NONE;
        }

        /** By how much less deep a thing is behind this year: never by more than it is deep. */
        int riseOf(int t) {
            if (isUp(t)) {
                return 0;
            }
            switch (sort[t]) {
                case IRON: return ironRise(t);
                case CLAY: return ironRise(t) == 0 || isCovered(t) ? 0 : 1;
                case WOOD: return Math.min(2 * ironRise(t), depth[t]);
                case GRAVE: return year % 5 == 4 ? 1 : 0;
                default: return 0;
            }
        }

        private int ironRise(int t) {
            return slow[t] > 0 && year % slow[t] == 0 ? 1 : 0;
        }

        private boolean isCovered(int thing) {
            for (int t = 0; t < things; t++) {
                if (depth[t] > 0 && place[t] == place[thing] && depth[t] < depth[thing]) {
                    return true;
                }
            }
            return false;
        }

        /** One year; whether any thing has risen in it. */
        boolean passYear() {
            boolean stirred = false;
            // All rises are told ahead of the first one: what covers clay is where it was.
            for (int t = 0; t < things; t++) {
                rises[t] = riseOf(t);
            }
            for (int t = 0; t < things; t++) {
                if (rises[t] > 0) {
                    depth[t] -= rises[t];
                    stirred = true;
                }
            }
            year++;
            return stirred;
        }

        int knownTo(int man) {
            int bits = 0;
            for (int t = 0; t < things; t++) {
                bits |= ((known[t] >> man) & 1) << t;
            }
            return bits;
        }

        /** The least set of the fewest men who together know all things; or NONE. */
        int fewestWhoKnowAll() {
            int best = NONE;
            for (int set = 0; set < 1 << men; set++) {
                if (allKnownTo(set) && (best == NONE || Integer.bitCount(set) < Integer.bitCount(best))) {
                    best = set;
                }
            }
            return best;
        }

        private boolean allKnownTo(int set) {
            for (int t = 0; t < things; t++) {
                if ((known[t] & set) == 0) {
                    return false;
                }
            }
            return true;
        }

        int countHalves() {
            int pairs = 0;
            for (int a = 0; a < things; a++) {
                for (int b = a + 1; b < things; b++) {
                    if ((known[a] & known[b]) != 0) {
                        pairs++;
                    }
                }
            }
            return pairs;
        }

        int firstHalves() {
            for (int a = 0; a < things; a++) {
                for (int b = a + 1; b < things; b++) {
                    if ((known[a] & known[b]) != 0) {
                        return 10 * a + b;
                    }
                }
            }
            return NONE;
        }
    }

    /** The tape, and how a mine is read from it; a fault stops the reading, with its place in at. */
    private static final class Text {
        static final int STANDS_WRONG = 1;
        static final int NUMBER_WRONG = 2;
        static final int NO_ROOM = 3;

        final int[] bytes = new int[ROOM_FOR_BYTES];
        int length = 0;
        int at = 0;
        private int fault = 0;

        void append(int letter) {
            if (length < ROOM_FOR_BYTES) {
                bytes[length] = letter;
                length++;
            }
        }

        /** The number of the fault; 0: the whole tape is a mine. */
        int readInto(Mine mine) {
            at = 0;
            fault = 0;
            mine.isThere = true;
            mine.things = 0;
            mine.year = 0;
            mine.dug = 0;
            readLaw(mine);
            // Each thing takes a byte at least, so this ends with the tape or a fault.
            for (int turn = 0; turn < ROOM_FOR_BYTES && fault == 0 && at < length; turn++) {
                readThing(mine);
            }
            return fault;
        }

        private void readLaw(Mine mine) {
            pass('m');
            mine.near = number(0, WIDEST_NEAR);
            pass(',');
            mine.men = number(1, MOST_MEN);
            pass(';');
        }

        private void readThing(Mine mine) {
            int sort = sortOf(next());
            if (sort == ANY) {
                fail(STANDS_WRONG);
                return;
            }
            int t = mine.things;
            if (t >= ROOM_FOR_THINGS) {
                fail(NO_ROOM);
                return;
            }
            at++;
            mine.sort[t] = sort;
            mine.depth[t] = number(0, DEEPEST);
            pass(',');
            mine.place[t] = number(0, PLACES - 1);
            pass(',');
            mine.slow[t] = number(1, SLOWEST);
            pass(',');
            mine.known[t] = number(0, (1 << mine.men) - 1);
            pass(';');
            mine.things = t + 1;
        }

        private static int sortOf(int letter) {
            switch (letter) {
                case 'i': return IRON;
                case 'c': return CLAY;
                case 'w': return WOOD;
                case 's': return STONE;
                case 'g': return GRAVE;
                default: return ANY;
            }
        }

        private void fail(int number) {
            if (fault == 0) {
                fault = number;
            }
        }

        private int next() {
            return byteAt(at);
        }

        private int byteAt(int place) {
            return place >= 0 && place < length && place < ROOM_FOR_BYTES ? bytes[place] : MISSING;
        }

        private void pass(int letter) {
            if (fault != 0) {
                return;
            }
            if (next() == letter) {
                at++;
            } else {
                fail(STANDS_WRONG);
            }
        }

        private boolean isFigure(int letter) {
            return letter >= '0' && letter <= '9';
        }

        private int number(int least, int most) {
            if (fault != 0) {
                return least;
            }
            int figures = 0;
            int value = 0;
            // The third figure is looked at, as it makes the whole run no token.
            for (int k = 0; k < 3 && isFigure(byteAt(at + k)); k++) {
                value = 10 * value + byteAt(at + k) - '0';
                figures++;
            }
            if (figures < 1 || figures > 2) {
                fail(STANDS_WRONG);
                return least;
            }
            if (value < least || value > most) {
                fail(NUMBER_WRONG);
                return least;
            }
            at += figures;
            return value;
        }
    }

    /** What the mine was ahead of each of the latest acts, in a ring that is made once. */
    private static final class Acts {
        private final Mine[] kept = new Mine[ROOM_FOR_ACTS];
        private int top = 0;
        int size = 0;

        Acts() {
            for (int k = 0; k < ROOM_FOR_ACTS; k++) {
                kept[k] = new Mine();
            }
        }

        void forgetAll() {
            size = 0;
        }

        void keep(Mine mine) {
            kept[top].become(mine);
            top = top + 1 < ROOM_FOR_ACTS ? top + 1 : 0;
            size = Math.min(size + 1, ROOM_FOR_ACTS);
        }

        void takeBack(Mine mine) {
            if (size > 0) {
                top = top > 0 ? top - 1 : ROOM_FOR_ACTS - 1;
                size--;
                mine.become(kept[top]);
            }
        }
    }

    /** Years ahead, run through on a mine of its own. */
    private static final class Seer {
        private final Mine then = new Mine();
        final int[] told = new int[MOST_TOLD];

        Mine behind(Mine now, int d) {
            then.become(now);
            passYears(d);
            return then;
        }

        private void passYears(int d) {
            for (int y = 0; y < d; y++) {
                then.passYear();
            }
        }

        int yearsUntilUp(Mine now, int thing) {
            then.become(now);
            for (int y = 0; y <= FAR_FORETOLD; y++) {
                if (then.isUp(thing)) {
                    return y;
                }
                then.passYear();
            }
            return NONE;
        }

        int firstUp(Mine now, boolean which) {
            int before = now.allUp();
            then.become(now);
            for (int y = 1; y <= FAR_FORETOLD; y++) {
                then.passYear();
                int fresh = then.allUp() & ~before;
                if (fresh != 0) {
                    return which ? leastOf(fresh) : y;
                }
            }
            return NONE;
        }

        int firstTrouble(Mine now, boolean when) {
            then.become(now);
            for (int y = 0; y <= FAR_FORETOLD; y++) {
                int two = then.firstTooNear();
                if (two != NONE) {
                    return when ? y : two;
                }
                then.passYear();
            }
            return NONE;
        }

        int leastDepth(Mine now, int thing, int d) {
            for (int depth = 1; depth <= DEEPEST; depth++) {
                then.become(now);
                then.depth[thing] = depth;
                passYears(d);
                if (!then.isUp(thing)) {
                    return depth;
                }
            }
            return NONE;
        }

        /** The kinds, or slows, or places of a thing by which the years go as told. */
        int thatFit(Mine now, int thing, int n, int what) {
            int least = what == FIT_LAIN ? 0 : 1;
            int most = what == FIT_SORTS ? GRAVE : what == FIT_SLOWS ? SLOWEST : PLACES - 1;
            int bits = 0;
            for (int guess = least; guess <= most; guess++) {
                then.become(now);
                if (what == FIT_SORTS) {
                    then.sort[thing] = guess;
                } else if (what == FIT_SLOWS) {
                    then.slow[thing] = guess;
                } else {
                    then.place[thing] = guess;
                }
                if (goesAsTold(thing, n, what)) {
                    bits |= 1 << guess;
                }
            }
            return bits;
        }

        private boolean goesAsTold(int thing, int n, int what) {
            for (int y = 0; y < n; y++) {
                then.passYear();
                int seen = what == FIT_LAIN ? then.nearTo(thing) : then.depth[thing];
                if (seen != told[y]) {
                    return false;
                }
            }
            return true;
        }

        /** Each thing not up counts 10 ways: by c of them moles dig at it. */
        int weightOfAll(Mine now) {
            int weight = 1;
            for (int t = 0; t < now.things; t++) {
                if (!now.isUp(t)) {
                    weight *= TENTHS;
                }
            }
            return weight;
        }

        int weightOfNoneUp(Mine now, int d, int c) {
            int before = now.allUp();
            int sum = 0;
            for (int dugAt = 0; dugAt < 1 << now.things; dugAt++) {
                int weight = weightOf(now, dugAt, c);
                if (weight > 0) {
                    then.become(now);
                    letDig(dugAt);
                    passYears(d);
                    sum += then.allUp() == before ? weight : 0;
                }
            }
            return sum;
        }

        private void letDig(int dugAt) {
            for (int t = 0; t < then.things; t++) {
                then.depth[t] -= (dugAt >> t) & 1;
            }
        }

        /** How many of all ways lead to digging at just these; none, if one of them is up. */
        private int weightOf(Mine now, int dugAt, int c) {
            if ((dugAt & now.allUp()) != 0) {
                return 0;
            }
            int weight = 1;
            for (int t = 0; t < now.things; t++) {
                if (!now.isUp(t)) {
                    weight *= ((dugAt >> t) & 1) == 1 ? c : TENTHS - c;
                }
            }
            return weight;
        }
    }

    /** Where all things are to lie: what was found last is kept, as it is asked for thing by thing. */
    private static final class Layer {
        private final Mine then = new Mine();
        private final Mine asked = new Mine();
        private int askedYears = MISSING;
        final int[] places = new int[ROOM_FOR_THINGS];
        int moved = NONE;

        /** Leaves the number of moved things, or NONE, in moved, and where all lie in places. */
        void find(Mine now, int d) {
            if (d == askedYears && asked.foretellsLike(now)) {
                return;
            }
            asked.become(now);
            askedYears = d;
            moved = NONE;
            if (oneComesUpAnywhere(d)) {
                return;
            }
            for (int few = 0; few <= now.things && moved == NONE; few++) {
                if (findMoving(few, d)) {
                    moved = few;
                }
            }
        }

        /** How all but clay rise does not depend on any place, so one run of the years tells it. */
        private boolean oneComesUpAnywhere(int d) {
            then.become(asked);
            for (int y = 0; y < d; y++) {
                then.passYear();
            }
            for (int t = 0; t < asked.things; t++) {
                if (asked.sort[t] != CLAY && !asked.isUp(t) && then.isUp(t)) {
                    return true;
                }
            }
            return false;
        }

        /** Ways are tried in the order of the places, thing by thing: the first one that holds is it. */
        private boolean findMoving(int few, int d) {
            int ways = 1 << 2 * asked.things;
            for (int way = 0; way < ways; way++) {
                if (countMoved(way) == few && holds(d)) {
                    return true;
                }
            }
            return false;
        }

        /** Puts the places of a way down, two bits a thing, the first thing highest; NONE if one that is up moves. */
        private int countMoved(int way) {
            int count = 0;
            for (int t = 0; t < asked.things; t++) {
                int place = (way >> 2 * (asked.things - 1 - t)) & (PLACES - 1);
                places[t] = place;
                if (place != asked.place[t]) {
                    if (asked.isUp(t)) {
                        return NONE;
                    }
                    count++;
                }
            }
            return count;
        }

        private boolean holds(int d) {
            int before = asked.allUp();
            then.become(asked);
            for (int t = 0; t < asked.things; t++) {
                then.place[t] = places[t];
            }
            if (then.firstTooNear() != NONE) {
                return false;
            }
            for (int y = 0; y < d; y++) {
                // In a year in which nothing rises, nothing can come up or together.
                if (then.passYear() && (then.allUp() != before || then.firstTooNear() != NONE)) {
                    return false;
                }
            }
            return true;
        }
    }

    /** What things are asked, body by body, and the trace that the bodies leave. */
    private static final class Asker {
        static final int SIZE = 0;
        static final int MARK = 1;
        static final int MOST_LEVELS = 12;

        final int[] numbers = new int[ROOM_FOR_TRACE];
        int traced = 0;

        int begin(Mine mine, int thing, int what) {
            traced = 0;
            return answer(mine, thing, what, 0);
        }

        private int answer(Mine mine, int thing, int what, int level) {
            return give(mine, thing, bodyFor(mine.sort[thing], what), level);
        }

        private static int bodyFor(int kind, int what) {
            int nearest = kind;
            for (int step = 0; step < GRAVE; step++) {
                int body = what == SIZE ? sizeBody(nearest) : markBody(nearest);
                if (body != MISSING) {
                    return body;
                }
                nearest = kindAbove(nearest);
            }
            return MISSING;
        }

        private static int sizeBody(int kind) {
            switch (kind) {
                case ANY: return 10;
                case IRON: return 11;
                case CLAY: return 12;
                case STONE: return 13;
                case GRAVE: return 14;
                default: return MISSING;
            }
        }

        private static int markBody(int kind) {
            switch (kind) {
                case ANY: return 20;
                case IRON: return 21;
                case WOOD: return 22;
                case STONE: return 23;
                case CLAY: return 24;
                default: return MISSING;
            }
        }

        /** What a body gives; the bodies never stand deeper in one another than the bound on levels. */
        private int give(Mine mine, int thing, int body, int level) {
            if (level >= MOST_LEVELS) {
                return 0;
            }
            note(body);
            int below = level + 1;
            switch (body) {
                case 10: return mine.slow[thing];
                case 11: return give(mine, thing, 10, below) + answer(mine, thing, MARK, below);
                case 12: return -give(mine, thing, 11, below);
                case 13: return give(mine, thing, 10, below) - 100;
                case 14: return 2 * give(mine, thing, 13, below);
                case 20: return thing;
                case 21: return give(mine, thing, 20, below) + mine.depth[thing];
                case 22: return give(mine, thing, 21, below) - 1000;
                case 23: return give(mine, thing, 20, below) - answer(mine, thing, SIZE, below);
                case 24: return 2 * give(mine, thing, 21, below);
                default: return 0;
            }
        }

        private void note(int body) {
            if (traced < ROOM_FOR_TRACE) {
                numbers[traced] = body;
                traced++;
            }
        }
    }
}
