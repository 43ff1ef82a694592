import java.math.BigInteger;
import java.util.ArrayDeque;
import java.util.ArrayList;
import java.util.Arrays;
import java.util.Deque;
import java.util.List;
import java.util.Random;
import java.util.regex.Matcher;
import java.util.regex.Pattern;

/** Long runs of drawn calls (always the same ones) against a second, slower program of the same document. */
public final class ModelTest {
    private static final int NONE = BuriedHalves.NONE, BAD = BuriedHalves.BAD;
    private static final int STATE = BuriedHalves.STATE, FULL = BuriedHalves.FULL;
    private static final int RUNS = 1500, CALLS = 512;
    private static int wrong = 0;

    public static void main(String[] args) {
        Random random = new Random(20261118);
        for (int run = 0; run < RUNS && wrong < 20; run++) {
            new Run(random, run).go();
        }
        System.exit(wrong == 0 ? 0 : 1);
    }

    /** One thing of the model. */
    private static final class Thing {
        final char sort;
        final int slow, depth, place, known;

        Thing(char sort, int depth, int place, int slow, int known) {
            this.sort = sort;
            this.depth = depth;
            this.place = place;
            this.slow = slow;
            this.known = known;
        }

        Thing sort(char s) { return new Thing(s, depth, place, slow, known); }
        Thing depth(int d) { return new Thing(sort, Math.max(0, d), place, slow, known); }
        Thing place(int p) { return new Thing(sort, depth, p, slow, known); }
        Thing slow(int s) { return new Thing(sort, depth, place, s, known); }
        Thing known(int k) { return new Thing(sort, depth, place, slow, k); }
    }

    /** A mine that never changes: each act makes another one. */
    private static final class World {
        final List<Thing> things;
        final int near, men, year, dug;

        World(List<Thing> things, int near, int men, int year, int dug) {
            this.things = things;
            this.near = near;
            this.men = men;
            this.year = year;
            this.dug = dug;
        }

        World with(int t, Thing thing) {
            List<Thing> others = new ArrayList<>(things);
            others.set(t, thing);
            return new World(others, near, men, year, dug);
        }

        World dug(int more) { return new World(things, near, men, year, dug + more); }

        /** What lifts a thing this year, even if it is less deep than that. */
        int lift(int t) {
            Thing it = things.get(t);
            if (it.depth == 0) {
                return 0;
            }
            int iron = year % it.slow == 0 ? 1 : 0;
            if (it.sort == 'w') {
                return iron + iron;
            }
            if (it.sort == 's') {
                return 0;
            }
            if (it.sort == 'g') {
                return (year - 4) % 5 == 0 ? 1 : 0;
            }
            if (it.sort == 'c' && things.stream().anyMatch(
                    o -> o != it && o.depth > 0 && o.place == it.place && o.depth < it.depth)) {
                return 0;
            }
            return iron;
        }

        int rise(int t) { return things.get(t).depth - next().things.get(t).depth; }

        World next() {
            List<Thing> then = new ArrayList<>();
            for (int t = 0; t < things.size(); t++) {
                then.add(things.get(t).depth(things.get(t).depth - lift(t)));
            }
            return new World(then, near, men, year + 1, dug);
        }

        World in(int d) {
            World w = this;
            for (int y = 0; y < d; y++) {
                w = w.next();
            }
            return w;
        }

        int up() {
            int bits = 0;
            for (int t = 0; t < things.size(); t++) {
                bits += things.get(t).depth == 0 ? 1 << t : 0;
            }
            return bits;
        }

        int nearTo(int t) {
            int bits = 0;
            for (int o = 0; o < things.size(); o++) {
                Thing a = things.get(t), b = things.get(o);
                boolean close = o != t && a.depth != 0 && b.depth != 0 && a.place - b.place < 2
                        && b.place - a.place < 2 && a.depth - b.depth <= near && b.depth - a.depth <= near;
                bits += close ? 1 << o : 0;
            }
            return bits;
        }

        int troubled() {
            for (int t = 0; t < things.size(); t++) {
                int later = nearTo(t) >> (t + 1);
                if (later != 0) {
                    return 10 * t + t + 1 + Integer.numberOfTrailingZeros(later);
                }
            }
            return NONE;
        }

        boolean safe(int d) {
            int before = up();
            World w = this;
            for (int y = 0; y <= d; y++, w = w.next()) {
                if (w.troubled() != NONE || w.up() != before) {
                    return false;
                }
            }
            return true;
        }

        /** Thing by thing, each place in turn: the best of all, its number of moves first. */
        int[] lay(int d, int t, int moved, int[] best) {
            if (t == things.size()) {
                if ((best == null || moved < best[0]) && safe(d)) {
                    int[] found = new int[t + 1];
                    found[0] = moved;
                    for (int k = 0; k < t; k++) {
                        found[k + 1] = things.get(k).place;
                    }
                    return found;
                }
                return best;
            }
            int stays = things.get(t).place;
            for (int p = 0; p < 4; p++) {
                if (p == stays || things.get(t).depth > 0) {
                    best = with(t, things.get(t).place(p)).lay(d, t + 1, moved + (p == stays ? 0 : 1), best);
                }
            }
            return best;
        }

        BigInteger[] moles(int d, int c, int t, BigInteger weight, int before) {
            if (t == things.size()) {
                return new BigInteger[] {in(d).up() == before ? weight : BigInteger.ZERO, weight};
            }
            Thing it = things.get(t);
            if (it.depth == 0) {
                return moles(d, c, t + 1, weight, before);
            }
            BigInteger[] dug = with(t, it.depth(it.depth - 1))
                    .moles(d, c, t + 1, weight.multiply(BigInteger.valueOf(c)), before);
            BigInteger[] not = moles(d, c, t + 1, weight.multiply(BigInteger.valueOf(10 - c)), before);
            return new BigInteger[] {dug[0].add(not[0]), dug[1].add(not[1])};
        }

        int whom(int what) {
            int fewest = NONE, which = NONE;
            for (int set = (1 << men) - 1; set >= 0; set--) {
                int all = set;
                if (things.stream().allMatch(o -> (o.known & all) != 0)
                        && (which == NONE || Integer.bitCount(set) <= fewest)) {
                    fewest = Integer.bitCount(set);
                    which = set;
                }
            }
            return what == 0 ? fewest : which;
        }

        List<Integer> halves() {
            List<Integer> pairs = new ArrayList<>();
            for (int a = 0; a < things.size(); a++) {
                for (int b = a + 1; b < things.size(); b++) {
                    for (int m = 0; m < men; m++) {
                        if (((things.get(a).known >> m) & (things.get(b).known >> m) & 1) == 1) {
                            pairs.add(10 * a + b);
                            break;
                        }
                    }
                }
            }
            return pairs;
        }
    }

    private static final String SORTS = "?icwsg";
    private static final int[] ABOVE = {0, 0, 1, 1, 0, 4};

    /** Asks by kinds as Java itself would have them. */
    private static class Any {
        final Thing it;
        final int number;
        final List<Integer> trace;

        Any(Thing it, int number, List<Integer> trace) {
            this.it = it;
            this.number = number;
            this.trace = trace;
        }

        int size() { trace.add(10); return it.slow; }
        int mark() { trace.add(20); return number; }
    }

    private static class Iron extends Any {
        Iron(Thing it, int number, List<Integer> trace) { super(it, number, trace); }
        @Override int size() { trace.add(11); int s = super.size(); return s + mark(); }
        @Override int mark() { trace.add(21); return super.mark() + it.depth; }
    }

    private static final class Clay extends Iron {
        Clay(Thing it, int number, List<Integer> trace) { super(it, number, trace); }
        @Override int size() { trace.add(12); return 0 - super.size(); }
        @Override int mark() { trace.add(24); int m = super.mark(); return m + m; }
    }

    private static final class Wood extends Iron {
        Wood(Thing it, int number, List<Integer> trace) { super(it, number, trace); }
        @Override int mark() { trace.add(22); return super.mark() - 1000; }
    }

    private static class Stone extends Any {
        Stone(Thing it, int number, List<Integer> trace) { super(it, number, trace); }
        @Override int size() { trace.add(13); return super.size() - 100; }
        @Override int mark() { trace.add(23); int m = super.mark(); return m - size(); }
    }

    private static final class Grave extends Stone {
        Grave(Thing it, int number, List<Integer> trace) { super(it, number, trace); }
        @Override int size() { trace.add(14); int s = super.size(); return s + s; }
    }

    /** The model itself: what a BuriedHalves object is due to answer. */
    private static final class Model {
        final int[][] rows = new int[8][];
        final int[] lanes = new int[8];
        final StringBuilder tape = new StringBuilder();
        World world = null;
        final Deque<World> before = new ArrayDeque<>();
        final World[] images = new World[2];
        List<Integer> trace = new ArrayList<>();
        int fault = 0, status = 0;

        boolean thing(int t) { return world != null && t >= 0 && t < world.things.size(); }
        boolean man(int m) { return world != null && m >= 0 && m < world.men; }
        int find(int number) { status = number; return -1000010 - number; }
        int ok(int answer) { status = 0; return answer; }

        void act(World next) {
            before.addLast(world);
            if (before.size() > 24) {
                before.removeFirst();
            }
            world = next;
        }

        int row(int r, int lane, int n) {
            if (r < 0 || r > 7 || lane < 0 || lane > 2 || n > 40) return BAD;
            if (n < 0) return find(4);
            rows[r] = new int[n];
            lanes[r] = lane;
            return ok(n);
        }

        int set(int r, int i, int v) {
            if (r < 0 || r > 7) return BAD;
            if (rows[r] == null) return find(1);
            if (i < 0 || i >= rows[r].length) return find(2);
            int bits = 32 >> (2 - lanes[r]);
            rows[r][i] = v << (32 - bits) >> (32 - bits);
            return ok(rows[r][i]);
        }

        int copy(int a, int i, int b, int j, int n) {
            if (a < 0 || a > 7 || b < 0 || b > 7) return BAD;
            if (rows[a] == null || rows[b] == null) return find(1);
            if (lanes[a] != lanes[b]) return find(5);
            try {
                System.arraycopy(rows[a], i, rows[b], j, n);
            } catch (IndexOutOfBoundsException e) {
                return find(2);
            }
            return ok(n);
        }

        int drop(int r) {
            if (r < 0 || r > 7) return BAD;
            if (rows[r] == null) return find(1);
            int had = rows[r].length;
            rows[r] = null;
            return ok(had);
        }

        int feed(int letter) {
            if (letter < 0 || letter > 255) return BAD;
            if (tape.length() == 100) return FULL;
            tape.append((char) letter);
            return tape.length();
        }

        int faulty(int number, int place) {
            fault = number;
            return -1000100 - place;
        }

        private static final String SHAPE = "mn,n;", EACH = "kn,n,n,n;";

        int mine() {
            String text = tape.toString();
            tape.setLength(0);
            Matcher tokens = Pattern.compile("[0-9]+|[a-z]|[,;]|[\\x00-\\xff]").matcher(text);
            List<Integer> numbers = new ArrayList<>();
            List<Thing> things = new ArrayList<>();
            char sort = '?';
            String shape = SHAPE;
            int step = 0;
            while (tokens.find()) {
                String token = tokens.group();
                char wanted = shape.charAt(step);
                boolean number = Character.isDigit(token.charAt(0));
                if (wanted == 'n' ? !number || token.length() > 2
                        : wanted == 'k' ? number || "icwsg".indexOf(token.charAt(0)) < 0
                        : token.charAt(0) != wanted) {
                    return faulty(1, tokens.start());
                }
                if (wanted == 'n') {
                    int value = Integer.parseInt(token), k = numbers.size();
                    int[] least = {0, 1, 0, 0, 1, 0};
                    int[] most = {9, 6, 40, 3, 9, k > 1 ? (1 << numbers.get(1)) - 1 : 0};
                    if (value < least[k] || value > most[k]) {
                        return faulty(2, tokens.start());
                    }
                    numbers.add(value);
                }
                if (wanted == 'k') {
                    if (things.size() == 5) {
                        return faulty(3, tokens.start());
                    }
                    sort = token.charAt(0);
                }
                step++;
                if (step == shape.length()) {
                    if (shape == EACH) {
                        things.add(new Thing(sort, numbers.get(2), numbers.get(3), numbers.get(4), numbers.get(5)));
                        numbers.subList(2, 6).clear();
                    }
                    shape = EACH;
                    step = 0;
                }
            }
            if (shape == SHAPE || step != 0) {
                return faulty(1, text.length());
            }
            world = new World(things, numbers.get(0), numbers.get(1), 0, 0);
            before.clear();
            return things.size();
        }

        int years(int n) {
            if (world == null) return STATE;
            if (n < 1 || n > 24) return BAD;
            if (world.year + n >= 1000) return FULL;
            for (int y = 0; y < n; y++) act(world.next());
            return world.up();
        }

        int bury(int t, int place, int depth) {
            if (!thing(t) || place < 0 || place > 3 || depth < 1 || depth > 40) return BAD;
            Thing it = world.things.get(t);
            act(world.with(t, it.depth(depth).place(place)).dug(it.depth + depth));
            return world.dug;
        }

        int tell(int t, int man, int on) {
            if (!thing(t) || !man(man) || on < 0 || on > 1) return BAD;
            Thing it = world.things.get(t);
            int then = on == 1 ? it.known | 1 << man : it.known & ~(1 << man);
            if (then == it.known) return STATE;
            act(world.with(t, it.known(then)));
            return then;
        }

        int undo() {
            if (before.isEmpty()) return STATE;
            world = before.removeLast();
            return before.size();
        }

        int thing(int t, int what) {
            if (!thing(t) || what < 0 || what > 5) return BAD;
            Thing it = world.things.get(t);
            return new int[] {it.depth, it.place, it.slow, it.known, world.nearTo(t), world.rise(t)}[what];
        }

        int knows(int man) {
            if (!man(man)) return BAD;
            int bits = 0;
            for (int t = 0; t < world.things.size(); t++) {
                bits |= (world.things.get(t).known & 1 << man) != 0 ? 1 << t : 0;
            }
            return bits;
        }

        int ahead(int t, int d) {
            return !thing(t) || d < 0 || d > 60 ? BAD : world.in(d).things.get(t).depth;
        }

        int up(int d) {
            return world == null ? STATE : d < 0 || d > 60 ? BAD : world.in(d).up();
        }

        int comesUp(int t) {
            if (!thing(t)) return BAD;
            World w = world;
            for (int y = 0; y < 100; y++, w = w.next()) {
                if (w.things.get(t).depth == 0) return y;
            }
            return NONE;
        }

        int first(int what) {
            if (world == null) return STATE;
            if (what < 0 || what > 1) return BAD;
            int best = NONE, which = NONE;
            for (int t = 0; t < world.things.size(); t++) {
                int y = comesUp(t);
                if (y > 0 && (best == NONE || y < best)) {
                    best = y;
                    which = t;
                }
            }
            return what == 0 ? which : best;
        }

        int trouble(int what) {
            if (world == null) return STATE;
            if (what < 0 || what > 1) return BAD;
            World w = world;
            for (int y = 0; y < 100; y++, w = w.next()) {
                if (w.troubled() != NONE) return what == 0 ? y : w.troubled();
            }
            return NONE;
        }

        int lay(int d, int k) {
            if (world == null) return STATE;
            if (d < 0 || d > 60 || k < -1 || k > 4) return BAD;
            int[] best = world.lay(d, 0, 0, null);
            return best == null || k + 1 >= best.length ? NONE : best[k + 1];
        }

        int dig(int t, int d) {
            if (!thing(t) || d < 0 || d > 60) return BAD;
            for (int depth = 1; depth < 41; depth++) {
                if (world.with(t, world.things.get(t).depth(depth)).in(d).things.get(t).depth > 0) return depth;
            }
            return NONE;
        }

        int whom(int what) {
            return world == null ? STATE : what < 0 || what > 1 ? BAD : world.whom(what);
        }

        int halves(int what) {
            if (world == null) return STATE;
            if (what < 0 || what > 1) return BAD;
            List<Integer> pairs = world.halves();
            return what == 0 ? pairs.size() : pairs.isEmpty() ? NONE : pairs.get(0);
        }

        int fits(int t, int r, int i, int n, int what) {
            if (!thing(t) || r < 0 || r > 7 || n < 1 || n > 16 || what < 0 || what > 2) return BAD;
            if (rows[r] == null) return find(1);
            if (i < 0 || (long) i + n > rows[r].length) return find(2);
            int[] told = Arrays.copyOfRange(rows[r], i, i + n);
            Thing it = world.things.get(t);
            int bits = 0;
            for (int g = what == 2 ? 0 : 1; g < new int[] {6, 10, 4}[what]; g++) {
                Thing guess = what == 0 ? it.sort(SORTS.charAt(g)) : what == 1 ? it.slow(g) : it.place(g);
                World w = world.with(t, guess);
                int[] seen = new int[n];
                for (int y = 0; y < n; y++) {
                    w = w.next();
                    seen[y] = what == 2 ? w.nearTo(t) : w.things.get(t).depth;
                }
                bits |= Arrays.equals(seen, told) ? 1 << g : 0;
            }
            return ok(bits);
        }

        int moles(int d, int c, int what) {
            if (world == null) return STATE;
            if (d < 0 || d > 60 || c < 0 || c > 10 || what < 0 || what > 1) return BAD;
            BigInteger[] both = world.moles(d, c, 0, BigInteger.ONE, world.up());
            return both[what].divide(both[0].gcd(both[1])).intValueExact();
        }

        int image(int k) {
            if (k < 0 || k > 1) return BAD;
            if (world == null) return STATE;
            images[k] = world;
            return 1;
        }

        int restore(int k) {
            if (k < 0 || k > 1) return BAD;
            if (images[k] == null) return STATE;
            world = images[k];
            before.clear();
            return 1;
        }

        int kind(int t) { return thing(t) ? SORTS.indexOf(world.things.get(t).sort) : BAD; }

        int as(int t, int kind) {
            if (!thing(t) || kind < 0 || kind > 5) return BAD;
            for (int is = kind(t); ; is = ABOVE[is]) {
                if (is == kind) return ok(t);
                if (is == 0) return find(3);
            }
        }

        int ask(int t, int what) {
            if (!thing(t) || what < 0 || what > 1) return BAD;
            trace = new ArrayList<>();
            Thing it = world.things.get(t);
            Any any = it.sort == 'i' ? new Iron(it, t, trace) : it.sort == 'c' ? new Clay(it, t, trace)
                    : it.sort == 'w' ? new Wood(it, t, trace) : it.sort == 's' ? new Stone(it, t, trace)
                    : new Grave(it, t, trace);
            return what == 0 ? any.size() : any.mark();
        }

        int trace(int i) { return i >= 0 && i < Math.min(16, trace.size()) ? trace.get(i) : NONE; }

        int count(int what) {
            if (what < 0 || what > 7) return BAD;
            int there = (int) Arrays.stream(rows).filter(r -> r != null).count();
            World w = world == null ? new World(List.of(), 0, 0, 0, 0) : world;
            return new int[] {there, w.things.size(), w.men, w.year, w.near, w.dug, before.size(), tape.length()}[what];
        }
    }

    /** One run of drawn calls on a new object and a new model. */
    private static final class Run {
        final Random random;
        final int run;
        final BuriedHalves x = new BuriedHalves();
        final Model m = new Model();
        int calls = 0;
        int lays = 0;

        Run(Random random, int run) {
            this.random = random;
            this.run = run;
        }

        void check(String call, int got, int want) {
            calls++;
            if (got != want && wrong < 20) {
                wrong++;
                System.out.println("run " + run + ", call " + calls + ": " + call + " answered " + got + ", due is " + want);
            }
        }

        /** Mostly from least to most, at times just beyond, seldom far beyond. */
        int draw(int least, int most) {
            int dice = random.nextInt(60);
            if (dice == 0) {
                return least - 1;
            }
            if (dice == 1) {
                return most + 1;
            }
            if (dice == 2) {
                return random.nextInt();
            }
            if (dice == 3) {
                return random.nextBoolean() ? Integer.MAX_VALUE : Integer.MIN_VALUE;
            }
            return least + random.nextInt(most - least + 1);
        }

        int thing() {
            return draw(0, Math.max(0, m.count(1) - (random.nextInt(10) == 0 ? 0 : 1)));
        }

        int man() {
            return draw(0, Math.max(0, m.count(2) - 1));
        }

        String text() {
            int men = 1 + random.nextInt(6);
            StringBuilder b = new StringBuilder("m" + random.nextInt(random.nextBoolean() ? 3 : 10) + "," + men + ";");
            int things = random.nextInt(20) == 0 ? 6 : random.nextInt(3) == 0 ? random.nextInt(6) : 3 + random.nextInt(3);
            int deep = random.nextBoolean() ? 41 : 8;
            for (int t = 0; t < things; t++) {
                b.append("icwsgccs".charAt(random.nextInt(8))).append(random.nextInt(deep)).append(',')
                        .append(random.nextInt(4)).append(',').append(1 + random.nextInt(9)).append(',')
                        .append(random.nextInt(1 << men)).append(';');
            }
            int harm = random.nextInt(4) == 0 ? 1 + random.nextInt(2) : 0;
            for (int h = 0; h < harm && b.length() > 0; h++) {
                int at = random.nextInt(b.length());
                String odd = "micwsg,;0123456789 xAZ-";
                char c = odd.charAt(random.nextInt(odd.length()));
                switch (random.nextInt(4)) {
                    case 0: b.deleteCharAt(at); break;
                    case 1: b.insert(at, c); break;
                    case 2: b.setCharAt(at, c); break;
                    default: b.setLength(at);
                }
            }
            return b.toString();
        }

        void readText() {
            String text = text();
            for (int i = 0; i < text.length(); i++) {
                check("feed", x.feed(text.charAt(i)), m.feed(text.charAt(i)));
            }
            check("mine " + text, x.mine(), m.mine());
            check("fault", x.fault(), m.fault);
        }

        /** A row that tells what is to be, now and then not quite. */
        void tellRow() {
            int r = random.nextInt(8), n = 1 + random.nextInt(16), t = thing();
            check("row", x.row(r, 0, n), m.row(r, 0, n));
            boolean near = random.nextBoolean();
            if (!m.thing(t)) {
                return;
            }
            World w = m.world;
            if (random.nextBoolean()) {
                w = w.with(t, w.things.get(t).place(random.nextInt(4)));
            }
            for (int i = 0; i < n; i++) {
                w = w.next();
                int v = near ? w.nearTo(t) : w.things.get(t).depth;
                v += random.nextInt(80) == 0 ? 1 : 0;
                check("set", x.set(r, i, v), m.set(r, i, v));
            }
            int what = near ? 2 : random.nextInt(2);
            check("fits of " + t + " by " + what, x.fits(t, r, 0, n, what), m.fits(t, r, 0, n, what));
        }

        void go() {
            readText();
            while (calls < CALLS - 130) {
                switch (random.nextInt(12)) {
                    case 0: if (random.nextInt(8) == 0) readText(); break;
                    case 1: tellRow(); break;
                    case 2: case 3: rowCalls(); break;
                    case 4: case 5: case 6: acts(); break;
                    case 7: case 8: case 9: foretold(); break;
                    case 10: guesses(); break;
                    default: asked();
                }
                check("status", x.status(), m.status);
            }
        }

        void rowCalls() {
            int a = draw(0, 7), b = draw(0, 7), i = draw(0, 6), j = draw(0, 6), n = draw(-1, 40);
            switch (random.nextInt(5)) {
                case 0: check("row", x.row(a, i % 4, n), m.row(a, i % 4, n)); break;
                case 1: check("set", x.set(a, i, n * 999), m.set(a, i, n * 999)); break;
                case 2: check("copy", x.copy(a, i, b, j, i), m.copy(a, i, b, j, i)); break;
                case 3: check("copy within", x.copy(a, i, a, j, n % 8), m.copy(a, i, a, j, n % 8)); break;
                default: if (random.nextInt(6) == 0) check("drop", x.drop(a), m.drop(a));
            }
        }

        void acts() {
            int t = thing(), p = draw(0, 3), d = draw(1, random.nextBoolean() ? 40 : 6);
            int n = draw(1, random.nextInt(10) == 0 ? 24 : 3), k = draw(0, 1), man = man(), what = draw(0, 5);
            switch (random.nextInt(9)) {
                case 0: check("years", x.years(n), m.years(n)); break;
                case 1: check("bury", x.bury(t, p, d), m.bury(t, p, d)); break;
                case 2: check("tell", x.tell(t, man, k), m.tell(t, man, k)); break;
                case 3: check("undo", x.undo(), m.undo()); break;
                case 4: check("thing", x.thing(t, what), m.thing(t, what)); break;
                case 5: check("knows", x.knows(man), m.knows(man)); break;
                case 6: check("image", x.image(k), m.image(k)); break;
                case 7: if (random.nextInt(3) == 0) check("restore", x.restore(k), m.restore(k)); break;
                default:
                    int c = draw(0, 7);
                    check("count", x.count(c), m.count(c));
            }
        }

        void foretold() {
            int t = thing(), d = draw(0, 60), k = draw(0, 1), c = draw(0, 10);
            switch (random.nextInt(7)) {
                case 0: check("ahead", x.ahead(t, d), m.ahead(t, d)); break;
                case 1: check("up", x.up(d), m.up(d)); break;
                case 2: check("comesUp", x.comesUp(t), m.comesUp(t)); break;
                case 3: check("first", x.first(k), m.first(k)); break;
                case 4: check("trouble", x.trouble(k), m.trouble(k)); break;
                case 5: check("dig", x.dig(t, d), m.dig(t, d)); break;
                default: check("moles", x.moles(d, c, k), m.moles(d, c, k));
            }
        }

        void guesses() {
            int k = draw(0, 1), t = thing(), r = draw(0, 7), i = draw(0, 5), n = draw(1, 16), what = draw(0, 2);
            switch (random.nextInt(4)) {
                case 0: check("whom", x.whom(k), m.whom(k)); break;
                case 1: check("halves", x.halves(k), m.halves(k)); break;
                case 2: check("fits", x.fits(t, r, i, n, what), m.fits(t, r, i, n, what)); break;
                default:
                    // The model seeks long: a few lays a run are enough.
                    if (lays < 4) {
                        lays++;
                        int d = random.nextBoolean() ? draw(0, 60) : draw(0, 8);
                        for (int which = -1; which < 5; which += 1 + random.nextInt(3)) {
                            check("lay(" + d + ", " + which + ")", x.lay(d, which), m.lay(d, which));
                        }
                    }
            }
        }

        void asked() {
            int t = thing(), k = draw(0, 5), what = draw(0, 1);
            check("kind", x.kind(t), m.kind(t));
            check("as", x.as(t, k), m.as(t, k));
            check("ask", x.ask(t, what), m.ask(t, what));
            for (int i = -1; i < 8; i++) {
                check("trace", x.trace(i), m.trace(i));
            }
        }
    }
}
