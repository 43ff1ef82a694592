/**
 * The sentences of the document that name a boundary case, one test each: refusals, part 1 of the terms,
 * promises 1 to 8 and 33. The sentence stands ahead of its test.
 */
public final class EdgesOfRowsAndTextsTest {
    private static final int BAD = BuriedHalves.BAD;
    private static final int STATE = BuriedHalves.STATE;
    private static final int FULL = BuriedHalves.FULL;
    private static final int NONE = BuriedHalves.NONE;
    private static final int LEAST = Integer.MIN_VALUE;
    private static final int MOST = Integer.MAX_VALUE;
    private static final int NULL_FOUND = -1000011;
    private static final int PLACE_FOUND = -1000012;
    private static final int KIND_FOUND = -1000013;
    private static final int SIZE_FOUND = -1000014;
    private static final int STORE_FOUND = -1000015;

    /** Stones 0 to 4 deep, none of which ever rises: by them an item of a row can be read, see item(). */
    private static final String READERS = "m0,1;s0,0,1,0;s1,0,1,0;s2,0,1,0;s3,0,1,0;s4,0,1,0;";

    private static int wrong = 0;

    private static void due(String call, int got, int want) {
        if (got != want) {
            wrong++;
            System.out.println(call + " answered " + got + ", due is " + want);
        }
    }

    private static void feed(BuriedHalves x, String text) {
        for (int i = 0; i < text.length(); i++) {
            x.feed(text.charAt(i));
        }
    }

    private static int read(BuriedHalves x, String text) {
        feed(x, text);
        return x.mine();
    }

    private static BuriedHalves mine(String text) {
        BuriedHalves x = new BuriedHalves();
        read(x, text);
        return x;
    }

    /** Item i of a row, 0 to 4, on an object whose mine are the READERS; else -1. */
    private static int item(BuriedHalves x, int row, int i) {
        for (int depth = 0; depth < 5; depth++) {
            if ((x.fits(depth, row, i, 1, 0) & 16) != 0) {
                return depth;
            }
        }
        return -1;
    }

    private static void items(String when, BuriedHalves x, int row, int... wanted) {
        for (int i = 0; i < wanted.length; i++) {
            due("item " + i + " of row " + row + ", " + when, item(x, row, i), wanted[i]);
        }
    }

    private static void fill(BuriedHalves x, int row, int lane, int... items) {
        x.row(row, lane, items.length);
        for (int i = 0; i < items.length; i++) {
            x.set(row, i, items[i]);
        }
    }

    public static void main(String[] args) {
        constants();
        newObject();
        badAheadOfState();
        badAheadOfFull();
        badAheadOfFindings();
        findingsInTime();
        refusedChangesNothing();
        rowNumbers();
        rowLanes();
        rowSizes();
        rowInPlace();
        zeroAtFirst();
        lowestBits();
        setPlaces();
        copyPlaces();
        copyWrapsNot();
        copyOverItself();
        copyRefused();
        copyFoundChangesNothing();
        dropping();
        bytesOnTheTape();
        fullTape();
        everyByteAsFirstToken();
        everyByteAsSort();
        everyByteAsNumber();
        everyByteAsSign();
        numbersOfLaw();
        numbersOfThings();
        knownByMen();
        thingsAtMost();
        figuresAtMost();
        endOfText();
        leastFaultOfOneToken();
        firstTokenWithFault();
        readInPlace();
        faultLeavesAll();
        faultIsTheLatest();
        statusOfTheLatest();
        System.exit(wrong == 0 ? 0 : 1);
    }

    // ---- refusals

    /** "NONE = -1000000, BAD = -1000001, STATE = -1000002, FULL = -1000003". */
    private static void constants() {
        due("NONE", NONE, -1000000);
        due("BAD", BAD, -1000001);
        due("STATE", STATE, -1000002);
        due("FULL", FULL, -1000003);
    }

    /** "No MINE." (promise 1), "ROWS 0 .. 7 are missing (at first)", "none at first", "0 before one". */
    private static void newObject() {
        BuriedHalves x = new BuriedHalves();
        for (int what = 0; what < 8; what++) {
            due("new count(" + what + ")", x.count(what), 0);
        }
        due("new fault()", x.fault(), 0);
        due("new status()", x.status(), 0);
        due("new up(0)", x.up(0), STATE);
        due("new undo()", x.undo(), STATE);
        due("new image(0)", x.image(0), STATE);
        due("new restore(0)", x.restore(0), STATE);
        due("new restore(1)", x.restore(1), STATE);
        due("new thing(0, 0)", x.thing(0, 0), BAD);
        due("new knows(0)", x.knows(0), BAD);
        due("new kind(0)", x.kind(0), BAD);
        for (int i = 0; i < 16; i++) {
            due("new trace(" + i + ")", x.trace(i), NONE);
        }
        for (int row = 0; row < 8; row++) {
            due("new set(" + row + ")", x.set(row, 0, 0), NULL_FOUND);
            due("new drop(" + row + ")", x.drop(row), NULL_FOUND);
        }
    }

    /** "the first of these that fits, but as told: BAD ..., STATE": BAD ahead of STATE where nothing else is told. */
    private static void badAheadOfState() {
        BuriedHalves x = new BuriedHalves();
        due("image(-1) without a mine", x.image(-1), BAD);
        due("image(2) without a mine", x.image(2), BAD);
        due("restore(-1), none kept", x.restore(-1), BAD);
        due("restore(2), none kept", x.restore(2), BAD);
        due("tell without a mine", x.tell(0, 0, 0), BAD);
        BuriedHalves y = mine("m0,1;s1,0,1,1;");
        due("tell, on 2, where it is so", y.tell(0, 0, 2), BAD);
        due("tell, on 3, where it is so", y.tell(0, 0, 3), BAD);
        due("tell, on -1, where it is so", y.tell(0, 0, -1), BAD);
        due("tell, man 1, who is none", y.tell(0, 1, 0), BAD);
    }

    /** "BAD ..., FULL": BAD ahead of FULL. */
    private static void badAheadOfFull() {
        BuriedHalves x = new BuriedHalves();
        feed(x, "m".repeat(100));
        due("feed(256) on a full tape", x.feed(256), BAD);
        due("feed(-1) on a full tape", x.feed(-1), BAD);
        due("feed(109) on a full tape", x.feed('m'), FULL);
        BuriedHalves y = mine("m0,1;");
        for (int k = 0; k < 41; k++) {
            y.years(24);
        }
        y.years(15);
        due("years(25) in year 999", y.years(25), BAD);
        due("years(0) in year 999", y.years(0), BAD);
        due("years(24) in year 999", y.years(24), FULL);
    }

    /** "then FINDINGS": BAD ahead of each of them. */
    private static void badAheadOfFindings() {
        BuriedHalves x = mine(READERS);
        due("row(8), size", x.row(8, 0, -1), BAD);
        due("row(-1), size", x.row(-1, 0, -1), BAD);
        due("row of lane 3, size", x.row(0, 3, -1), BAD);
        due("row of lane -1, size", x.row(0, -1, -1), BAD);
        due("copy, b no row, a missing", x.copy(0, 0, 8, 0, 0), BAD);
        due("copy, b no row, a missing", x.copy(0, 0, -1, 0, 0), BAD);
        due("copy, a no row, b missing", x.copy(8, 0, 0, 0, 0), BAD);
        due("copy, a no row, b missing", x.copy(-1, 0, 0, 0, 0), BAD);
        due("fits, no thing, missing", x.fits(5, 0, 0, 1, 0), BAD);
        due("fits, no thing, missing", x.fits(-1, 0, 0, 1, 0), BAD);
        due("fits, n 0, missing", x.fits(0, 0, 0, 0, 0), BAD);
        due("fits, n 17, missing", x.fits(0, 0, 0, 17, 0), BAD);
        due("fits, what 3, missing", x.fits(0, 0, 0, 1, 3), BAD);
        due("fits, what -1, missing", x.fits(0, 0, 0, 1, -1), BAD);
        x.row(0, 0, 3);
        due("fits, n 17, beyond the end", x.fits(0, 0, 0, 17, 0), BAD);
        due("fits, n -1, place -1", x.fits(0, 0, -1, -1, 0), BAD);
        due("fits, what 3, place 3", x.fits(0, 0, 3, 1, 3), BAD);
        due("as(0, 6)", x.as(0, 6), BAD);
        due("as(5, 1)", x.as(5, 1), BAD);
    }

    /** "of several the first in time": NULL ahead of STORE ahead of PLACE, as the promises tell them. */
    private static void findingsInTime() {
        BuriedHalves x = mine(READERS);
        x.row(0, 0, 3);
        x.row(1, 1, 3);
        x.row(2, 2, 3);
        x.drop(2);
        due("set: null, place", x.set(2, -1, 0), NULL_FOUND);
        due("set: null, place it had", x.set(2, 3, 0), NULL_FOUND);
        due("copy: a null, store", x.copy(2, 0, 0, 0, 1), NULL_FOUND);
        due("copy: b null, store", x.copy(0, 0, 2, 0, 1), NULL_FOUND);
        due("copy: a null, place", x.copy(2, -1, 0, 0, 1), NULL_FOUND);
        due("copy: b null, place", x.copy(0, 0, 2, 0, 9), NULL_FOUND);
        due("copy: both null", x.copy(2, 0, 3, 0, -1), NULL_FOUND);
        due("copy: store, place of a", x.copy(0, -1, 1, 0, 1), STORE_FOUND);
        due("copy: store, place of b", x.copy(0, 0, 1, 9, 1), STORE_FOUND);
        due("copy: store, n", x.copy(0, 0, 1, 0, -1), STORE_FOUND);
        due("fits: null, place", x.fits(0, 2, -1, 1, 0), NULL_FOUND);
        due("fits: null, place beyond", x.fits(0, 2, 40, 1, 0), NULL_FOUND);
    }

    private static void asItWas(String call, BuriedHalves x, int status) {
        int[] counts = {2, 2, 3, 1, 4, 9, 2, 3};
        for (int what = 0; what < 8; what++) {
            due("count(" + what + ") behind " + call, x.count(what), counts[what]);
        }
        int[][] things = {{6, 1, 2, 3, 0, 0}, {3, 3, 1, 5, 0, 0}};
        for (int t = 0; t < 2; t++) {
            for (int what = 0; what < 6; what++) {
                due("thing(" + t + ", " + what + ") behind " + call, x.thing(t, what), things[t][what]);
            }
        }
        due("trace(0) behind " + call, x.trace(0), 13);
        due("trace(2) behind " + call, x.trace(2), NONE);
        due("fault() behind " + call, x.fault(), 1);
        due("status() behind " + call, x.status(), status);
    }

    /** A mine in year 1, two acts, three bytes on the tape, two rows, one image, a trace, a fault, status 3. */
    private static BuriedHalves busy() {
        BuriedHalves x = new BuriedHalves();
        read(x, "?");
        read(x, "m4,3;i4,1,2,3;s3,3,1,5;");
        x.image(1);
        x.years(1);
        x.bury(0, 1, 6);
        feed(x, "m0,");
        fill(x, 0, 0, 5, 5);
        x.row(1, 1, 1);
        x.ask(1, 0);
        x.as(0, 4);
        return x;
    }

    /** "What is refused, or found, changes nothing but status()": each way to be refused, on a busy object of its own. */
    private static void refusedChangesNothing() {
        asItWas("nothing", busy(), 3);
        for (int call = 0; call < 54; call++) {
            BuriedHalves x = busy();
            int[] dueOf = new int[2];
            int got = refused(x, call, dueOf);
            due("refused call " + call, got, dueOf[0]);
            asItWas("refused call " + call, x, dueOf[0] <= -1000010 ? -1000010 - dueOf[0] : dueOf[1]);
            due("row 0 behind call " + call, x.fits(1, 0, 0, 2, 0), 0);
            x.bury(1, 3, 5);
            due("items behind call " + call, x.fits(1, 0, 0, 2, 0), 16 | 32);
            x.undo();
            due("undo behind call " + call, x.undo(), 1);
            due("depth undone behind call " + call, x.thing(0, 0), 3);
            due("undo again behind call " + call, x.undo(), 0);
            due("year undone behind call " + call, x.count(3), 0);
            due("image 0 behind call " + call, x.restore(0), STATE);
            due("image 1 behind call " + call, x.restore(1), 1);
            due("its year behind call " + call, x.count(3), 0);
        }
    }

    /** Asks for something that is refused; the answer due goes to dueOf[0], status then (unless a finding) to [1]. */
    private static int refused(BuriedHalves x, int call, int[] dueOf) {
        dueOf[0] = call < 40 ? BAD : NULL_FOUND;
        dueOf[1] = 3;
        switch (call) {
            case 0: return x.row(8, 0, 1);
            case 1: return x.row(0, 3, 1);
            case 2: return x.row(0, 0, 41);
            case 3: return x.set(8, 0, 1);
            case 4: return x.copy(0, 0, 8, 0, 1);
            case 5: return x.copy(8, 0, 0, 0, 1);
            case 6: return x.drop(8);
            case 7: return x.feed(256);
            case 8: return x.years(0);
            case 9: return x.years(25);
            case 10: return x.bury(2, 0, 1);
            case 11: return x.bury(0, 4, 1);
            case 12: return x.bury(0, 0, 41);
            case 13: return x.bury(0, 0, 0);
            case 14: return x.tell(2, 0, 1);
            case 15: return x.tell(0, 3, 1);
            case 16: return x.tell(0, 0, 2);
            case 17: return x.thing(0, 6);
            case 18: return x.knows(3);
            case 19: return x.ahead(0, 61);
            case 20: return x.up(61);
            case 21: return x.comesUp(2);
            case 22: return x.first(2);
            case 23: return x.trouble(2);
            case 24: return x.lay(61, 0);
            case 25: return x.lay(0, 5);
            case 26: return x.dig(0, 61);
            case 27: return x.whom(2);
            case 28: return x.halves(2);
            case 29: return x.fits(0, 0, 0, 17, 0);
            case 30: return x.moles(61, 0, 0);
            case 31: return x.moles(0, 11, 0);
            case 32: return x.image(2);
            case 33: return x.restore(2);
            case 34: return x.kind(2);
            case 35: return x.as(0, 6);
            case 36: return x.ask(0, 2);
            case 37: return x.ask(2, 0);
            case 38: return x.count(8);
            case 39: return x.fits(2, 0, 0, 1, 0);
            case 40: return x.set(2, 0, 1);
            case 41: return x.copy(0, 0, 2, 0, 1);
            case 42: return x.copy(2, 0, 0, 0, 1);
            case 43: return x.drop(2);
            case 44: return x.fits(0, 2, 0, 1, 0);
            default: return refusedOtherwise(x, call, dueOf);
        }
    }

    private static int refusedOtherwise(BuriedHalves x, int call, int[] dueOf) {
        dueOf[0] = PLACE_FOUND;
        switch (call) {
            case 45: return x.set(0, 2, 1);
            case 46: return x.copy(0, 0, 0, 1, 2);
            case 47: return x.fits(0, 0, 1, 2, 0);
            case 48:
                dueOf[0] = STORE_FOUND;
                return x.copy(0, 0, 1, 0, 1);
            case 49:
                dueOf[0] = SIZE_FOUND;
                return x.row(0, 0, -1);
            case 50:
                dueOf[0] = KIND_FOUND;
                return x.as(1, 1);
            case 51:
                dueOf[0] = STATE;
                return x.tell(0, 0, 1);
            case 52:
                dueOf[0] = STATE;
                return x.tell(0, 2, 0);
            default:
                dueOf[0] = STATE;
                return x.restore(0);
        }
    }

    // ---- rows

    /** "ROWS 0 .. 7", "BAD: ROW". */
    private static void rowNumbers() {
        BuriedHalves x = new BuriedHalves();
        int[] none = {-1, 8, LEAST, MOST};
        for (int row : none) {
            due("row(" + row + ")", x.row(row, 0, 1), BAD);
            due("set(" + row + ")", x.set(row, 0, 1), BAD);
            due("drop(" + row + ")", x.drop(row), BAD);
            due("copy(" + row + ", .., 0)", x.copy(row, 0, 0, 0, 0), BAD);
            due("copy(0, .., " + row + ")", x.copy(0, 0, row, 0, 0), BAD);
        }
        for (int row = 0; row < 8; row++) {
            due("row(" + row + ")", x.row(row, 0, row), row);
            due("rows", x.count(0), row + 1);
        }
        for (int row = 0; row < 8; row++) {
            due("drop(" + row + ")", x.drop(row), row);
            due("rows", x.count(0), 7 - row);
        }
    }

    /** "a LANE (0 bytes, 1 shorts, 2 ints)", "BAD: LANE". */
    private static void rowLanes() {
        BuriedHalves x = new BuriedHalves();
        due("lane -1", x.row(0, -1, 1), BAD);
        due("lane 3", x.row(0, 3, 1), BAD);
        due("lane least", x.row(0, LEAST, 1), BAD);
        due("lane most", x.row(0, MOST, 1), BAD);
        due("no row of these", x.count(0), 0);
        for (int lane = 0; lane < 3; lane++) {
            due("lane " + lane, x.row(lane, lane, 1), 1);
        }
    }

    /** "0 to 40 ITEMS", "BAD: n above 40; SIZE" (4: fewer than none). */
    private static void rowSizes() {
        BuriedHalves x = new BuriedHalves();
        due("41 items", x.row(0, 0, 41), BAD);
        due("most items", x.row(0, 0, MOST), BAD);
        due("status of BAD", x.status(), 0);
        due("-1 items", x.row(0, 0, -1), SIZE_FOUND);
        due("status of SIZE", x.status(), 4);
        due("least items", x.row(0, 0, LEAST), SIZE_FOUND);
        due("no row of these", x.count(0), 0);
        due("0 items", x.row(0, 0, 0), 0);
        due("it is there", x.count(0), 1);
        due("40 items", x.row(1, 0, 40), 40);
        due("the last of them", x.set(1, 39, 1), 1);
        due("no more of them", x.set(1, 40, 1), PLACE_FOUND);
    }

    /** "in place of what is there": size, lane and items are those of the new one. */
    private static void rowInPlace() {
        BuriedHalves x = mine(READERS);
        fill(x, 0, 0, 3, 3, 3, 3);
        due("shorter, of ints", x.row(0, 2, 2), 2);
        due("one row yet", x.count(0), 1);
        due("an int", x.set(0, 0, 300), 300);
        due("no item where the longer one had one", x.set(0, 2, 1), PLACE_FOUND);
        due("none to copy", x.copy(0, 1, 0, 0, 2), PLACE_FOUND);
        due("none to fit", x.fits(0, 0, 1, 2, 0), PLACE_FOUND);
        due("dropped with its own size", x.drop(0), 2);
    }

    /** "0 at first": each item, of each lane, of a first row, of one in place of another, of one behind a drop. */
    private static void zeroAtFirst() {
        for (int lane = 0; lane < 3; lane++) {
            BuriedHalves x = mine(READERS);
            x.row(0, lane, 4);
            items("first, lane " + lane, x, 0, 0, 0, 0, 0);
            fill(x, 0, lane, 4, 3, 2, 1);
            items("set, lane " + lane, x, 0, 4, 3, 2, 1);
            x.row(0, lane, 4);
            items("anew, lane " + lane, x, 0, 0, 0, 0, 0);
            fill(x, 0, lane, 4, 3, 2, 1);
            x.drop(0);
            x.row(0, lane, 4);
            items("behind a drop, lane " + lane, x, 0, 0, 0, 0, 0);
            fill(x, 0, lane, 4, 3, 2, 1);
            x.row(0, lane, 1);
            x.row(0, lane, 4);
            items("shorter and longer, lane " + lane, x, 0, 0, 0, 0, 0);
        }
        BuriedHalves y = mine(READERS);
        y.row(7, 2, 40);
        due("the last of 40", item(y, 7, 39), 0);
        due("the first 16 of 40", y.fits(0, 7, 0, 16, 0), 62);
        due("the last 16 of 40", y.fits(0, 7, 24, 16, 0), 62);
    }

    /** "its lowest bits, as many as the LANE has: what it is then". */
    private static void lowestBits() {
        BuriedHalves x = mine(READERS);
        for (int lane = 0; lane < 3; lane++) {
            x.row(lane, lane, 2);
        }
        int[] values = {0, 1, -1, 127, 128, 255, 256, 257, -128, -129, 32767, 32768, 65535, 65536, 65540, -32768, -32769,
            MOST, LEAST, MOST - 128, LEAST + 3};
        int[] bytes = {0, 1, -1, 127, -128, -1, 0, 1, -128, 127, -1, 0, -1, 0, 4, 0, -1, -1, 0, 127, 3};
        int[] shorts = {0, 1, -1, 127, 128, 255, 256, 257, -128, -129, 32767, -32768, -1, 0, 4, -32768, 32767, -1, 0, -129, 3};
        for (int k = 0; k < values.length; k++) {
            due("byte " + values[k], x.set(0, 0, values[k]), bytes[k]);
            due("short " + values[k], x.set(1, 0, values[k]), shorts[k]);
            due("int " + values[k], x.set(2, 0, values[k]), values[k]);
        }
        x.set(0, 1, 256 + 3);
        x.set(1, 1, 65536 + 2);
        x.set(2, 1, 65536 + 2);
        due("the byte is kept so", item(x, 0, 1), 3);
        due("the short is kept so", item(x, 1, 1), 2);
        due("the int is kept whole", item(x, 2, 1), -1);
    }

    /** set: "NULL; PLACE" (2: no such place of a ROW). */
    private static void setPlaces() {
        BuriedHalves x = mine(READERS);
        due("missing", x.set(0, 0, 1), NULL_FOUND);
        due("status", x.status(), 1);
        x.row(0, 0, 3);
        x.row(1, 0, 0);
        int[] none = {-1, 3, 39, 40, LEAST, MOST};
        for (int i : none) {
            due("set(0, " + i + ")", x.set(0, i, 1), PLACE_FOUND);
            due("status", x.status(), 2);
        }
        due("no item at all", x.set(1, 0, 1), PLACE_FOUND);
        items("nothing set", x, 0, 0, 0, 0);
        due("the first", x.set(0, 0, 1), 1);
        due("status", x.status(), 0);
        due("the last", x.set(0, 2, 2), 2);
        items("set", x, 0, 1, 0, 2);
    }

    /** copy: "PLACE (i, j, n below 0, or beyond an end)": the ends themselves are fine. */
    private static void copyPlaces() {
        BuriedHalves x = mine(READERS);
        fill(x, 0, 0, 1, 2, 3);
        fill(x, 1, 0, 4, 4);
        x.row(2, 0, 0);
        x.row(3, 0, 40);
        x.row(4, 0, 40);
        due("none, ahead", x.copy(0, 0, 1, 0, 0), 0);
        due("none, at the end of a", x.copy(0, 3, 1, 0, 0), 0);
        due("none, at the end of b", x.copy(0, 0, 1, 2, 0), 0);
        due("none, at both ends", x.copy(0, 3, 1, 2, 0), 0);
        due("none of none", x.copy(2, 0, 2, 0, 0), 0);
        due("40 of 40", x.copy(3, 0, 4, 0, 40), 40);
        due("41 of 40", x.copy(3, 0, 4, 0, 41), PLACE_FOUND);
        due("none beyond a", x.copy(0, 4, 1, 0, 0), PLACE_FOUND);
        due("none beyond b", x.copy(0, 0, 1, 3, 0), PLACE_FOUND);
        due("none ahead of a", x.copy(0, -1, 1, 0, 0), PLACE_FOUND);
        due("none ahead of b", x.copy(0, 0, 1, -1, 0), PLACE_FOUND);
        due("n -1", x.copy(0, 1, 1, 1, -1), PLACE_FOUND);
        due("one of none", x.copy(2, 0, 1, 0, 1), PLACE_FOUND);
        due("one to none", x.copy(0, 0, 2, 0, 1), PLACE_FOUND);
        due("beyond a", x.copy(1, 1, 0, 0, 2), PLACE_FOUND);
        due("beyond b", x.copy(0, 0, 1, 1, 2), PLACE_FOUND);
        items("nothing came", x, 1, 4, 4);
        items("nothing came", x, 0, 1, 2, 3);
        due("the last one", x.copy(0, 2, 1, 1, 1), 1);
        items("it came", x, 1, 4, 3);
        due("all", x.copy(0, 1, 1, 0, 2), 2);
        items("they came", x, 1, 2, 3);
    }

    /** copy: no sum of place and n wraps around. */
    private static void copyWrapsNot() {
        BuriedHalves x = mine(READERS);
        fill(x, 0, 2, 1, 2, 3);
        fill(x, 1, 2, 4, 4, 4);
        int[][] far = {{0, 0, MOST}, {1, 0, MOST}, {0, 1, MOST}, {3, 3, MOST}, {MOST, 0, 1}, {0, MOST, 1}, {MOST, MOST, MOST},
            {MOST, 0, 0}, {LEAST, 0, 0}, {0, LEAST, 0}, {0, 0, LEAST}, {LEAST, 0, MOST}, {1, 0, MOST - 1}, {LEAST, LEAST, LEAST},
            {-1, 0, 1}, {MOST, 0, LEAST}};
        for (int[] one : far) {
            due("copy(0, " + one[0] + ", 1, " + one[1] + ", " + one[2] + ")", x.copy(0, one[0], 1, one[1], one[2]), PLACE_FOUND);
        }
        items("nothing came", x, 1, 4, 4, 4);
    }

    /** "as they were ahead": a row copied over itself, up and down. */
    private static void copyOverItself() {
        for (int lane = 0; lane < 3; lane++) {
            BuriedHalves x = mine(READERS);
            fill(x, 0, lane, 1, 2, 3, 4);
            due("up", x.copy(0, 0, 0, 1, 3), 3);
            items("up, lane " + lane, x, 0, 1, 1, 2, 3);
            fill(x, 0, lane, 1, 2, 3, 4);
            due("down", x.copy(0, 1, 0, 0, 3), 3);
            items("down, lane " + lane, x, 0, 2, 3, 4, 4);
            due("in place", x.copy(0, 0, 0, 0, 4), 4);
            items("in place, lane " + lane, x, 0, 2, 3, 4, 4);
        }
    }

    /** copy: "BAD: ROWS; NULL; STORE" (5: ROWS of two LANES), also if there is nothing to copy. */
    private static void copyRefused() {
        BuriedHalves x = new BuriedHalves();
        for (int lane = 0; lane < 3; lane++) {
            x.row(lane, lane, 2);
            x.row(lane + 3, lane, 2);
        }
        for (int a = 0; a < 6; a++) {
            for (int b = 0; b < 6; b++) {
                boolean alike = a % 3 == b % 3;
                due("copy " + a + " to " + b, x.copy(a, 0, b, 0, 1), alike ? 1 : STORE_FOUND);
                due("none of " + a + " to " + b, x.copy(a, 0, b, 0, 0), alike ? 0 : STORE_FOUND);
                due("status", x.status(), alike ? 0 : 5);
            }
        }
        due("from a missing one", x.copy(6, 0, 0, 0, 0), NULL_FOUND);
        due("to a missing one", x.copy(0, 0, 6, 0, 0), NULL_FOUND);
        due("a missing one to itself", x.copy(6, 0, 6, 0, 0), NULL_FOUND);
        due("status", x.status(), 1);
    }

    /** "What is ... found, changes nothing": not even those items for which there was room. */
    private static void copyFoundChangesNothing() {
        BuriedHalves x = mine(READERS);
        fill(x, 0, 0, 1, 2, 3);
        fill(x, 1, 0, 4, 4, 4);
        due("beyond b", x.copy(0, 0, 1, 1, 3), PLACE_FOUND);
        due("beyond a", x.copy(0, 1, 1, 0, 3), PLACE_FOUND);
        due("beyond itself", x.copy(0, 0, 0, 1, 3), PLACE_FOUND);
        items("b stays", x, 1, 4, 4, 4);
        items("a stays", x, 0, 1, 2, 3);
    }

    /** drop: "how many ITEMS it had. BAD; NULL." */
    private static void dropping() {
        BuriedHalves x = new BuriedHalves();
        x.row(0, 0, 0);
        x.row(7, 2, 40);
        due("of none", x.drop(0), 0);
        due("of 40", x.drop(7), 40);
        due("no rows", x.count(0), 0);
        due("again", x.drop(0), NULL_FOUND);
        due("again", x.drop(7), NULL_FOUND);
        due("status", x.status(), 1);
        due("never made", x.drop(3), NULL_FOUND);
        due("made anew", x.row(7, 0, 1), 1);
        due("status", x.status(), 0);
        due("dropped anew", x.drop(7), 1);
    }

    // ---- texts

    /** feed: "A byte (0 to 255)", "BAD". */
    private static void bytesOnTheTape() {
        BuriedHalves x = new BuriedHalves();
        int[] none = {-1, 256, LEAST, MOST};
        for (int letter : none) {
            due("feed(" + letter + ")", x.feed(letter), BAD);
            due("bytes", x.count(7), 0);
        }
        for (int k = 0; k < 100; k++) {
            int letter = k < 50 ? k : 156 + k;
            due("feed(" + letter + ")", x.feed(letter), k + 1);
            due("bytes", x.count(7), k + 1);
        }
    }

    /** "THE TAPE has at most 100 bytes": FULL, and the 101st is not read; the tape is empty behind it. */
    private static void fullTape() {
        BuriedHalves x = new BuriedHalves();
        feed(x, "m1,1;" + "i40,03,09,01;".repeat(5));
        int had = x.count(7);
        due("bytes", had, 70);
        for (int k = had; k < 100; k++) {
            x.feed('7');
        }
        due("100 bytes", x.count(7), 100);
        due("the 101st", x.feed(';'), FULL);
        due("100 bytes yet", x.count(7), 100);
        due("a fault in a full tape", x.mine(), -1000170);
        due("its number", x.fault(), 1);
        due("the tape is empty", x.count(7), 0);
        due("there is room again", x.feed('m'), 1);
        BuriedHalves y = new BuriedHalves();
        feed(y, "m1,1;" + "i40,03,09,01;".repeat(4) + "i40,03,09,0");
        due("nothing is left out", read(y, "1;"), 5);
    }

    /** "letters a to z ..., NUMBERS ..., SIGNS , and ; nothing else": each byte at the head of the law. */
    private static void everyByteAsFirstToken() {
        for (int letter = 0; letter < 256; letter++) {
            BuriedHalves x = new BuriedHalves();
            x.feed(letter);
            due("mine() of byte " + letter, x.mine(), letter == 'm' ? -1000101 : -1000100);
            due("fault() of byte " + letter, x.fault(), 1);
        }
    }

    /** "SORT: i an iron one, c a clay one, w a wooden one, s a stone, g a grave": no other byte. */
    private static void everyByteAsSort() {
        for (int letter = 0; letter < 256; letter++) {
            BuriedHalves x = new BuriedHalves();
            feed(x, "m0,1;");
            x.feed(letter);
            int kind = letter < 1 ? -1 : "icwsg".indexOf(letter);
            due("sort of byte " + letter, read(x, "1,0,1,0;"), kind < 0 ? -1000105 : 1);
            due("kind of byte " + letter, x.kind(0), kind < 0 ? BAD : kind + 1);
        }
    }

    /** "NUMBERS (figures, 2 at most)": no other byte is a figure, behind one figure neither. */
    private static void everyByteAsNumber() {
        for (int letter = 0; letter < 256; letter++) {
            boolean figure = letter >= '0' && letter <= '9';
            BuriedHalves x = new BuriedHalves();
            feed(x, "m");
            x.feed(letter);
            due("near of byte " + letter, read(x, ",1;"), figure ? 0 : -1000101);
            due("near", x.count(4), figure ? letter - '0' : 0);
            BuriedHalves y = new BuriedHalves();
            feed(y, "m0");
            y.feed(letter);
            boolean sign = letter == ',';
            due("near of 0 and byte " + letter, read(y, sign ? "1;" : ",1;"), figure || sign ? 0 : -1000102);
        }
    }

    /** "SIGNS , and ;": each at its place alone. */
    private static void everyByteAsSign() {
        for (int letter = 0; letter < 256; letter++) {
            BuriedHalves x = new BuriedHalves();
            feed(x, "m10");
            x.feed(letter);
            // The number is at fault ahead of what stands behind it, but not if that makes it no number.
            boolean figure = letter >= '0' && letter <= '9';
            due("behind 10 byte " + letter, x.mine(), -1000101);
            due("fault behind 10 of byte " + letter, x.fault(), figure ? 1 : 2);
            BuriedHalves y = new BuriedHalves();
            feed(y, "m0,01");
            y.feed(letter);
            due("end of law by byte " + letter, y.mine(), letter == ';' ? 0 : figure ? -1000103 : -1000105);
            BuriedHalves z = new BuriedHalves();
            feed(z, "m0,1;s01");
            z.feed(letter);
            due("behind depth byte " + letter, read(z, "0,1,0;"), letter == ',' ? 1 : figure ? -1000106 : -1000108);
        }
    }

    private static void number(String ahead, int value, String behind, boolean isFine, int place) {
        String[] shapes = value < 10 ? new String[] {"" + value, "0" + value} : new String[] {"" + value};
        for (String shape : shapes) {
            BuriedHalves x = new BuriedHalves();
            String text = ahead + shape + behind;
            int things = ahead.indexOf(';') > 0 ? 1 : 0;
            due(text, read(x, text), isFine ? things : -1000100 - place);
            due("fault of " + text, x.fault(), isFine ? 0 : 2);
        }
    }

    /** "m NEAR , MEN ; (0 to 9; 1 to 6)": each number of two figures at most. */
    private static void numbersOfLaw() {
        for (int value = 0; value < 100; value++) {
            number("m", value, ",6;", value <= 9, 1);
            number("m9,", value, ";", value >= 1 && value <= 6, 3);
        }
    }

    /** "0 to 40; PLACES 0 .. 3; 1 to 9": each number of two figures at most. */
    private static void numbersOfThings() {
        for (int value = 0; value < 100; value++) {
            number("m9,6;w", value, ",3,9,63;", value <= 40, 6);
            number("m9,6;w40,", value, ",9,63;", value <= 3, 9);
            number("m9,6;w40,3,", value, ",63;", value >= 1 && value <= 9, 11);
        }
    }

    /** "a set of MEN, bits, there are". */
    private static void knownByMen() {
        for (int men = 1; men <= 6; men++) {
            for (int value = 0; value < 100; value++) {
                number("m0," + men + ";g0,0,1,", value, ";", value < 1 << men, 12);
            }
        }
    }

    /** "THINGS 0 .. 4, 5 at most", "3 a thing more than there is room for (its letter)", no thing at all. */
    private static void thingsAtMost() {
        for (int things = 0; things <= 5; things++) {
            BuriedHalves x = new BuriedHalves();
            due(things + " things", read(x, "m0,1;" + "s1,0,1,0;".repeat(things)), things);
            due("things", x.count(1), things);
            due("the last one", x.thing(things - 1, 0), things == 0 ? BAD : 1);
            due("none behind it", x.thing(things, 0), BAD);
        }
        for (char sort : "icwsg".toCharArray()) {
            BuriedHalves x = new BuriedHalves();
            due("a sixth " + sort, read(x, "m0,1;" + "s1,0,1,0;".repeat(5) + sort + "1,0,1,0;"), -1000150);
            due("its fault", x.fault(), 3);
        }
        BuriedHalves y = new BuriedHalves();
        due("a sixth that is not whole", read(y, "m0,1;" + "s1,0,1,0;".repeat(5) + "i"), -1000150);
        due("its fault", y.fault(), 3);
    }

    /** "1 it cannot stand there, or is none (a run of three figures, at its first ...)". */
    private static void figuresAtMost() {
        String[] texts = {"m000,1;", "m123", "m0,001;", "m0,1;i001,0,1,0;", "m0,1;i1,000,1,0;", "m0,1;i1,0,001,0;",
            "m0,1;i1,0,1,000;", "000", "m0,1;111", "m0,1;i1,0,1,0000000;", "m0,1;i1,0,1,0;123", "m0,1;i1234"};
        int[] places = {1, 1, 3, 6, 8, 10, 12, 0, 5, 12, 14, 6};
        for (int k = 0; k < texts.length; k++) {
            BuriedHalves x = new BuriedHalves();
            due(texts[k], read(x, texts[k]), -1000100 - places[k]);
            due("fault of " + texts[k], x.fault(), 1);
        }
    }

    /** "the end: how many bytes there are": each head of a text that is no whole one. */
    private static void endOfText() {
        String whole = "m09,06;i40,03,09,63;g00,00,01,00;";
        for (int length = 0; length <= whole.length(); length++) {
            BuriedHalves x = new BuriedHalves();
            boolean isWhole = length == 7 || length == 20 || length == 33;
            int got = read(x, whole.substring(0, length));
            // A head that ends in the first figure of 06 MEN, or of 09 or 01 SLOW, ends in a number that is not as told.
            boolean inNumber = length == 5 || length == 15 || length == 28;
            int place = inNumber ? length - 1 : length;
            due("the first " + length + " bytes", got, isWhole ? length / 13 : -1000100 - place);
            due("fault of the first " + length, x.fault(), isWhole ? 0 : inNumber ? 2 : 1);
        }
        BuriedHalves y = new BuriedHalves();
        due("0 men at the end", read(y, "m9,0"), -1000103);
        due("its fault", y.fault(), 2);
        due("slow 0 at the end", read(y, "m9,1;i1,1,0"), -1000110);
        due("its fault", y.fault(), 2);
        due("empty", read(y, ""), -1000100);
        due("its fault", y.fault(), 1);
    }

    /** "of one TOKEN the least": a number not as told that cannot stand there, a thing too many that is none. */
    private static void leastFaultOfOneToken() {
        String five = "m0,1;" + "s1,0,1,0;".repeat(5);
        String[] texts = {"99", "m0,1;99", "m0,1;s1;", "m0,1;s1,99,1,0;", "m999", "m0,1;s999,0,1,0;",
            five + "m", five + "x", five + "99", five + ";", five + (char) 233, five + "w"};
        int[] places = {0, 5, 7, 8, 1, 6, 50, 50, 50, 50, 50, 50};
        int[] faults = {1, 1, 1, 2, 1, 1, 1, 1, 1, 1, 1, 3};
        for (int k = 0; k < texts.length; k++) {
            BuriedHalves x = new BuriedHalves();
            due(texts[k], read(x, texts[k]), -1000100 - places[k]);
            due("fault of " + texts[k], x.fault(), faults[k]);
        }
    }

    /** "FAULTS, the first TOKEN that has one (its first byte)". */
    private static void firstTokenWithFault() {
        String[] texts = {"m10,0;", "m10;", "m10 ", "m0,7,", "m0,1;i41,4,0,2;", "m0,1;i40,4,0,2;", "m0,1;i40,3,0,2;",
            "m0,1;i40,3,9,2;", "m0,1;i40,3,9,2;?", "m0,1;i40,3,9,1;?", "m10,1;i", "m0,0"};
        int[] places = {1, 1, 1, 3, 6, 9, 11, 13, 13, 15, 1, 3};
        int[] faults = {2, 2, 2, 2, 2, 2, 2, 2, 2, 1, 2, 2};
        for (int k = 0; k < texts.length; k++) {
            BuriedHalves x = new BuriedHalves();
            due(texts[k], read(x, texts[k]), -1000100 - places[k]);
            due("fault of " + texts[k], x.fault(), faults[k]);
        }
    }

    /** "stands in place of the one before ...: YEAR 0, nothing is DUG; no ACT can be undone; IMAGES and ROWS stay". */
    private static void readInPlace() {
        BuriedHalves x = mine("m4,3;i4,1,2,3;s3,3,1,5;");
        x.image(0);
        fill(x, 5, 1, 7, 7);
        x.years(2);
        x.bury(1, 0, 40);
        x.tell(1, 1, 1);
        due("dug", x.count(5), 43);
        due("read anew", read(x, "m0,1;s7,2,9,1;"), 1);
        int[] counts = {1, 1, 1, 0, 0, 0, 0, 0};
        for (int what = 0; what < 8; what++) {
            due("count(" + what + ")", x.count(what), counts[what]);
        }
        due("no act", x.undo(), STATE);
        due("rows stay", x.fits(0, 5, 0, 2, 0), 16 | 32);
        due("the other image was not kept", x.restore(1), STATE);
        due("the image stays", x.restore(0), 1);
        due("as it was kept", x.thing(1, 0), 3);
        due("its men", x.count(2), 3);
        due("none at all", read(x, "m3,2;"), 0);
        due("stands in place, too", x.count(1), 0);
        due("it is a mine", x.up(0), 0);
    }

    /** "all but the tape, that is empty then, and what fault() tells stays". */
    private static void faultLeavesAll() {
        BuriedHalves x = new BuriedHalves();
        due("no mine, a fault", read(x, "m0,1;i"), -1000106);
        due("no mine yet", x.up(0), STATE);
        due("tape", x.count(7), 0);
        read(x, "m4,3;i4,1,2,3;s3,3,1,5;");
        x.image(1);
        x.years(1);
        x.bury(1, 0, 40);
        x.row(2, 0, 6);
        x.ask(0, 1);
        x.as(0, 2);
        due("a fault behind all", read(x, "m9,6;s1,1,1,1;s2,2,2,2;s3,3,3,3;s4,4"), -1000135);
        int[] counts = {1, 2, 3, 1, 4, 43, 2, 0};
        for (int what = 0; what < 8; what++) {
            due("count(" + what + ")", x.count(what), counts[what]);
        }
        due("fault", x.fault(), 2);
        due("depth", x.thing(0, 0), 3);
        due("place", x.thing(1, 1), 0);
        due("slow", x.thing(0, 2), 2);
        due("known", x.thing(1, 3), 5);
        due("kind", x.kind(0), 1);
        due("trace", x.trace(0), 21);
        due("status", x.status(), 3);
        due("undone", x.undo(), 1);
        due("as it was", x.thing(1, 1), 3);
        due("row", x.drop(2), 6);
        due("image", x.restore(1), 1);
    }

    /** fault: "The number of the latest FAULT; 0 before one." */
    private static void faultIsTheLatest() {
        BuriedHalves x = new BuriedHalves();
        due("before one", x.fault(), 0);
        read(x, "m0,1;");
        due("a mine is none", x.fault(), 0);
        read(x, "m0,7;");
        due("2", x.fault(), 2);
        read(x, "m0,7");
        due("2 again", x.fault(), 2);
        read(x, "m0,1;s1,0,1,0;");
        due("it stays", x.fault(), 2);
        x.restore(0);
        x.feed(300);
        due("it stays yet", x.fault(), 2);
        read(x, "");
        due("1", x.fault(), 1);
        read(x, "m0,1;" + "s1,0,1,0;".repeat(6));
        due("3", x.fault(), 3);
    }

    /** status: "Of the latest call with a ROW, or as(), that was not BAD, STATE, FULL ... 0: it had none, or there was none." */
    private static void statusOfTheLatest() {
        BuriedHalves x = mine("m0,1;i3,0,1,1;");
        due("there was none", x.status(), 0);
        for (int call = 0; call < 5; call++) {
            x.drop(0);
            due("a finding", x.status(), 1);
            x.drop(8);
            x.row(0, 0, 41);
            x.set(-1, 0, 0);
            x.copy(0, 0, 8, 0, 0);
            x.fits(0, 0, 0, 0, 0);
            x.as(0, 6);
            x.as(1, 1);
            due("BAD leaves it", x.status(), 1);
            x.tell(0, 0, 1);
            x.undo();
            x.restore(1);
            due("STATE leaves it", x.status(), 1);
            x.ask(0, 0);
            x.lay(0, -1);
            x.moles(0, 0, 0);
            x.kind(0);
            x.count(0);
            read(x, "");
            due("a call without a ROW leaves it", x.status(), 1);
            x.row(1, 0, 3);
            due("row has none", x.status(), 0);
            x.as(0, 5);
            due("as", x.status(), 3);
            int got = call == 0 ? x.set(1, 0, 3) : call == 1 ? x.copy(1, 0, 1, 1, 1) : call == 2 ? x.as(0, 1)
                    : call == 3 ? x.fits(0, 1, 0, 1, 0) : x.drop(1);
            due("call " + call + " is no refusal", got >= 0 ? 1 : 0, 1);
            due("call " + call + " has none", x.status(), 0);
        }
        x.drop(0);
        feed(x, "m".repeat(101));
        due("FULL leaves it", x.status(), 1);
        x.row(2, 0, -1);
        due("4", x.status(), 4);
        x.row(2, 0, 1);
        x.row(3, 1, 1);
        x.copy(2, 0, 3, 0, 0);
        due("5", x.status(), 5);
        x.set(2, 1, 0);
        due("2", x.status(), 2);
    }
}
