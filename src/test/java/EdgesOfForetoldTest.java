/**
 * The sentences of the document that name a boundary case, one test each: parts 3 and 4 of the terms, promises 15 to 25
 * and 28 to 31. The sentence stands ahead of its test.
 */
public final class EdgesOfForetoldTest {
    private static final int BAD = BuriedHalves.BAD;
    private static final int STATE = BuriedHalves.STATE;
    private static final int NONE = BuriedHalves.NONE;
    private static final int NULL_FOUND = -1000011;
    private static final int PLACE_FOUND = -1000012;
    private static final int KIND_FOUND = -1000013;
    private static final int LEAST = Integer.MIN_VALUE;
    private static final int MOST = Integer.MAX_VALUE;
    private static final int[] NO_YEARS = {-1, 61, 99, LEAST, MOST};
    private static final int[] NOT_ONE_OF_TWO = {-1, 2, LEAST, MOST};
    private static final int[] NO_THING = {-1, 2, 5, LEAST, MOST};
    private static int wrong = 0;

    private static void due(String call, int got, int want) {
        if (got != want) {
            wrong++;
            System.out.println(call + " answered " + got + ", due is " + want);
        }
    }

    private static int read(BuriedHalves x, String text) {
        for (int i = 0; i < text.length(); i++) {
            x.feed(text.charAt(i));
        }
        return x.mine();
    }

    private static BuriedHalves mine(String text) {
        BuriedHalves x = new BuriedHalves();
        read(x, text);
        return x;
    }

    private static void fill(BuriedHalves x, int row, int lane, int... items) {
        x.row(row, lane, items.length);
        for (int i = 0; i < items.length; i++) {
            x.set(row, i, items[i]);
        }
    }

    public static void main(String[] args) {
        stateAheadOfBad();
        badWithoutMine();
        noThings();
        yearsForetold();
        whatIsAsked();
        nothingChanges();
        aheadOfNow();
        beyondTheLastYear();
        upOfAll();
        comesUpFirst();
        firstOfThose();
        firstOfSeveral();
        troubleYears();
        troublePasses();
        troubleOfSeveral();
        layNumbers();
        layNowAndBehindEachYear();
        layNoneComesUp();
        layThoseUp();
        layFewestMoved();
        layFirstOfSeveral();
        layNone();
        layOfAnotherYear();
        layOfAnotherMine();
        layOfOtherYearsAhead();
        digDepths();
        digAtItsPlace();
        whomFewest();
        whomLeastOfSeveral();
        whomKnownToNobody();
        halvesPairs();
        fitsNumbers();
        fitsFindings();
        fitsFromBehindOneYear();
        sortsBits();
        slowsBits();
        lainBits();
        molesNumbers();
        molesOfThoseNotUp();
        molesLowestTerms();
        kindBounds();
        asKinds();
        askBodies();
        askBad();
        traceBounds();
        System.exit(wrong == 0 ? 0 : 1);
    }

    // ---- refusals and bounds of all that is foretold

    /** "STATE: no MINE (ahead of BAD)". */
    private static void stateAheadOfBad() {
        BuriedHalves x = new BuriedHalves();
        int[] wild = {-2, -1, 0, 1, 2, 5, 61, LEAST, MOST};
        for (int n : wild) {
            due("up(" + n + ")", x.up(n), STATE);
            due("first(" + n + ")", x.first(n), STATE);
            due("trouble(" + n + ")", x.trouble(n), STATE);
            due("lay(" + n + ", 0)", x.lay(n, 0), STATE);
            due("lay(0, " + n + ")", x.lay(0, n), STATE);
            due("whom(" + n + ")", x.whom(n), STATE);
            due("halves(" + n + ")", x.halves(n), STATE);
            due("moles(" + n + ", 0, 0)", x.moles(n, 0, 0), STATE);
            due("moles(0, " + n + ", 0)", x.moles(0, n, 0), STATE);
            due("moles(0, 0, " + n + ")", x.moles(0, 0, n), STATE);
        }
    }

    /** "there is no such thing": BAD, if there is no MINE, too. */
    private static void badWithoutMine() {
        BuriedHalves x = new BuriedHalves();
        x.row(0, 0, 1);
        due("ahead(0, 0)", x.ahead(0, 0), BAD);
        due("comesUp(0)", x.comesUp(0), BAD);
        due("dig(0, 0)", x.dig(0, 0), BAD);
        due("fits(0, 0, 0, 1, 0)", x.fits(0, 0, 0, 1, 0), BAD);
        due("kind(0)", x.kind(0), BAD);
        due("as(0, 0)", x.as(0, 0), BAD);
        due("ask(0, 0)", x.ask(0, 0), BAD);
    }

    /** A MINE without THINGS: the empty one is a mine. */
    private static void noThings() {
        BuriedHalves x = mine("m9,6;");
        x.row(0, 0, 1);
        due("up(0)", x.up(0), 0);
        due("first(0)", x.first(0), NONE);
        due("first(1)", x.first(1), NONE);
        due("trouble(0)", x.trouble(0), NONE);
        due("trouble(1)", x.trouble(1), NONE);
        due("lay(60, -1)", x.lay(60, -1), 0);
        for (int k = 0; k < 5; k++) {
            due("lay(60, " + k + ")", x.lay(60, k), NONE);
        }
        due("whom(0)", x.whom(0), 0);
        due("whom(1)", x.whom(1), 0);
        due("halves(0)", x.halves(0), 0);
        due("halves(1)", x.halves(1), NONE);
        due("moles above", x.moles(60, 10, 0), 1);
        due("moles below", x.moles(60, 10, 1), 1);
        due("ahead(0, 0)", x.ahead(0, 0), BAD);
        due("comesUp(0)", x.comesUp(0), BAD);
        due("dig(0, 0)", x.dig(0, 0), BAD);
        due("fits(0, 0, 0, 1, 0)", x.fits(0, 0, 0, 1, 0), BAD);
        due("kind(0)", x.kind(0), BAD);
        due("as(0, 0)", x.as(0, 0), BAD);
        due("ask(0, 0)", x.ask(0, 0), BAD);
    }

    /** "d YEARS from now (0 to 60)", and no such thing. */
    private static void yearsForetold() {
        BuriedHalves x = mine("m0,1;s3,0,1,0;s4,3,1,0;");
        for (int d : NO_YEARS) {
            due("ahead(0, " + d + ")", x.ahead(0, d), BAD);
            due("up(" + d + ")", x.up(d), BAD);
            due("lay(" + d + ", -1)", x.lay(d, -1), BAD);
            due("dig(0, " + d + ")", x.dig(0, d), BAD);
            due("moles(" + d + ", 0, 0)", x.moles(d, 0, 0), BAD);
        }
        for (int d = 0; d <= 60; d += 60) {
            due("ahead(0, " + d + ")", x.ahead(0, d), 3);
            due("up(" + d + ")", x.up(d), 0);
            due("lay(" + d + ", -1)", x.lay(d, -1), 0);
            due("dig(0, " + d + ")", x.dig(0, d), 1);
            due("moles(" + d + ", 0, 0)", x.moles(d, 0, 0), 1);
        }
        for (int t : NO_THING) {
            due("ahead(" + t + ", 0)", x.ahead(t, 0), BAD);
            due("comesUp(" + t + ")", x.comesUp(t), BAD);
            due("dig(" + t + ", 0)", x.dig(t, 0), BAD);
        }
    }

    /** "(what = 0) ... (1)": nothing else can be asked. */
    private static void whatIsAsked() {
        BuriedHalves x = mine("m0,1;i3,0,1,1;i3,0,1,1;");
        for (int what : NOT_ONE_OF_TWO) {
            due("first(" + what + ")", x.first(what), BAD);
            due("trouble(" + what + ")", x.trouble(what), BAD);
            due("whom(" + what + ")", x.whom(what), BAD);
            due("halves(" + what + ")", x.halves(what), BAD);
            due("moles(0, 0, " + what + ")", x.moles(0, 0, what), BAD);
        }
    }

    /** "FORETOLD (nothing changes)". */
    private static void nothingChanges() {
        BuriedHalves x = mine("m3,3;i9,0,2,3;c12,0,3,4;w20,2,4,1;s11,1,1,2;g6,3,9,0;");
        x.years(2);
        x.bury(3, 2, 15);
        fill(x, 0, 0, 1, 2);
        int[] things = new int[30];
        for (int k = 0; k < 30; k++) {
            things[k] = x.thing(k / 6, k % 6);
        }
        for (int t = 0; t < 5; t++) {
            x.ahead(t, 60);
            x.comesUp(t);
            x.dig(t, 60);
            x.fits(t, 0, 0, 2, 0);
            x.fits(t, 0, 0, 2, 1);
            x.fits(t, 0, 0, 2, 2);
            x.lay(60, t);
            x.lay(0, t);
        }
        for (int what = 0; what < 2; what++) {
            x.first(what);
            x.trouble(what);
            x.whom(what);
            x.halves(what);
            x.moles(60, 5, what);
        }
        x.up(60);
        int[] counts = {1, 5, 3, 2, 3, 26, 3, 0};
        for (int what = 0; what < 8; what++) {
            due("count(" + what + ")", x.count(what), counts[what]);
        }
        for (int k = 0; k < 30; k++) {
            due("thing(" + k / 6 + ", " + k % 6 + ")", x.thing(k / 6, k % 6), things[k]);
        }
    }

    // ---- ahead, up, comesUp, first, trouble

    /** d 0 is now. */
    private static void aheadOfNow() {
        BuriedHalves x = mine("m0,1;i5,0,2,0;w5,1,2,0;s0,2,1,0;");
        x.years(3);
        due("iron, 0", x.ahead(0, 0), 3);
        due("iron, 1", x.ahead(0, 1), 3);
        due("iron, 2", x.ahead(0, 2), 2);
        due("wood, 0", x.ahead(1, 0), 1);
        due("wood, 2", x.ahead(1, 2), 0);
        due("up(0)", x.up(0), 4);
        due("up(1)", x.up(1), 4);
        due("up(2)", x.up(2), 6);
    }

    /** What is foretold goes on beyond YEAR 999, which only years() may not. */
    private static void beyondTheLastYear() {
        BuriedHalves x = mine("m0,1;s1,0,1,0;i1,1,9,0;g1,2,1,0;");
        for (int k = 0; k < 41; k++) {
            x.years(24);
        }
        x.years(15);
        x.bury(0, 0, 40);
        x.bury(1, 1, 8);
        x.bury(2, 2, 8);
        due("year", x.count(3), 999);
        due("999 is 111 times 9", x.ahead(1, 1), 7);
        due("up to year 1008", x.ahead(1, 9), 7);
        due("year 1008, too", x.ahead(1, 10), 6);
        due("60 years", x.ahead(1, 60), 1);
        due("graves in 999", x.ahead(2, 1), 7);
        due("graves in 1004", x.ahead(2, 6), 6);
        due("graves 36 years on", x.up(36), 4);
        due("graves 35 years on", x.up(35), 0);
        due("comes up", x.comesUp(2), 36);
        due("iron comes up", x.comesUp(1), 64);
        due("first", x.first(1), 36);
        due("dig", x.dig(1, 60), 8);
        due("year stays", x.count(3), 999);
    }

    /** "UP (bits)": of all things, d YEARS from now. */
    private static void upOfAll() {
        BuriedHalves x = mine("m0,1;i1,0,1,0;i2,1,1,0;i3,2,1,0;i4,3,1,0;i40,3,1,0;");
        int[] up = {0, 1, 3, 7, 15};
        for (int d = 0; d < up.length; d++) {
            due("up(" + d + ")", x.up(d), up[d]);
        }
        due("up(39)", x.up(39), 15);
        due("up(40)", x.up(40), 31);
        due("up(60)", x.up(60), 31);
    }

    /** "behind how many YEARS (0 to 99) one is UP first; NONE". */
    private static void comesUpFirst() {
        due("up now", mine("m0,1;i0,0,1,0;").comesUp(0), 0);
        due("stone up now", mine("m0,1;s0,0,1,0;").comesUp(0), 0);
        due("1", mine("m0,1;i1,0,9,0;").comesUp(0), 1);
        due("stone", mine("m0,1;s1,0,1,0;").comesUp(0), NONE);
        due("99", mine("m0,1;i15,0,7,0;").comesUp(0), 99);
        due("106", mine("m0,1;i16,0,7,0;").comesUp(0), NONE);
        due("100", mine("m0,1;i12,0,9,0;").comesUp(0), NONE);
        BuriedHalves x = mine("m0,1;i12,0,9,0;");
        x.years(1);
        due("100, but one has passed", x.comesUp(0), 99);
        BuriedHalves y = mine("m0,1;c1,0,1,0;s1,0,1,0;c3,0,2,0;i2,0,1,0;");
        due("a clay one at last", y.comesUp(0), 1);
        due("a clay one under a stone", y.comesUp(2), NONE);
    }

    /** "the thing that is UP first of those that are not now ... (1 to 99); NONE". */
    private static void firstOfThose() {
        BuriedHalves x = mine("m0,1;s0,0,1,0;i0,0,1,0;i7,0,1,0;s3,0,1,0;");
        due("not one up now", x.first(0), 2);
        due("behind", x.first(1), 7);
        x.bury(2, 0, 1);
        due("behind 1", x.first(1), 1);
        x.years(1);
        due("none left but a stone", x.first(0), NONE);
        due("none left but a stone", x.first(1), NONE);
        BuriedHalves y = mine("m0,1;s1,0,1,0;i15,0,7,0;");
        due("99", y.first(1), 99);
        due("thing 1", y.first(0), 1);
        BuriedHalves z = mine("m0,1;s1,0,1,0;i12,0,9,0;");
        due("100", z.first(1), NONE);
        due("100", z.first(0), NONE);
        BuriedHalves u = mine("m0,1;i0,0,1,0;i0,0,1,0;");
        due("all up", u.first(0), NONE);
        due("all up", u.first(1), NONE);
    }

    /** "of several the least". */
    private static void firstOfSeveral() {
        BuriedHalves x = mine("m0,1;s0,0,1,0;i9,0,1,0;i4,0,1,0;w8,1,1,0;i4,0,1,0;");
        due("of 2, 3 and 4", x.first(0), 2);
        due("behind", x.first(1), 4);
        x.bury(2, 0, 5);
        due("of 3 and 4", x.first(0), 3);
        x.bury(3, 0, 40);
        due("4", x.first(0), 4);
        due("behind", x.first(1), 4);
        due("0 of all", mine("m0,1;i1,0,1,0;i1,0,1,0;").first(0), 0);
    }

    /** "behind how many YEARS (0 to 99) two are TOO NEAR first ... NONE". */
    private static void troubleYears() {
        due("now", mine("m0,1;s5,0,1,0;s5,1,1,0;").trouble(0), 0);
        due("behind 1", mine("m0,1;i6,0,9,0;s5,1,1,0;").trouble(0), 1);
        BuriedHalves x = mine("m0,1;i40,0,7,0;s25,1,1,0;");
        due("behind 99", x.trouble(0), 99);
        due("the two", x.trouble(1), 1);
        BuriedHalves y = mine("m0,1;i40,0,9,0;s28,1,1,0;");
        due("behind 100", y.trouble(0), NONE);
        due("behind 100", y.trouble(1), NONE);
        due("never", mine("m9,1;s5,0,1,0;s5,2,1,0;").trouble(0), NONE);
        due("alone", mine("m9,1;s5,0,1,0;").trouble(1), NONE);
        due("up first", mine("m0,1;i1,0,1,0;i2,1,1,0;").trouble(0), NONE);
    }

    /** "first": two that pass each other, which are not TOO NEAR before and behind it; or jump over NEAR. */
    private static void troublePasses() {
        BuriedHalves x = mine("m0,1;i9,0,1,0;s6,1,1,0;");
        due("as deep behind 3", x.trouble(0), 3);
        x.years(4);
        due("passed", x.trouble(0), NONE);
        BuriedHalves y = mine("m0,1;w9,0,1,0;s6,1,1,0;");
        due("jumped over it", y.trouble(0), NONE);
        BuriedHalves z = mine("m1,1;w9,0,1,0;s6,1,1,0;");
        due("not with NEAR 1", z.trouble(0), 1);
    }

    /** "(10 times the lesser, and the other one; of several the first)". */
    private static void troubleOfSeveral() {
        BuriedHalves x = mine("m0,1;s9,0,1,0;i7,3,1,0;i7,2,1,0;s5,1,1,0;s9,0,1,0;");
        due("0 and 4 ahead of 1 and 2", x.trouble(1), 4);
        x.bury(4, 0, 30);
        due("1 and 2", x.trouble(1), 12);
        due("now", x.trouble(0), 0);
        x.bury(1, 0, 7);
        due("2 and 3, and 1 and 3, behind 2", x.trouble(0), 2);
        due("1 and 3 are the first", x.trouble(1), 13);
        x.bury(1, 3, 40);
        due("2 and 3", x.trouble(1), 23);
        BuriedHalves y = mine("m0,1;s9,0,1,0;s8,0,1,0;s7,0,1,0;s6,0,1,0;s6,0,1,0;");
        due("3 and 4", y.trouble(1), 34);
    }

    // ---- lay, dig

    private static void lies(String text, int d, int moved, int... places) {
        BuriedHalves x = mine(text);
        laidAs(text, x, d, moved, places);
    }

    private static void laidAs(String text, BuriedHalves x, int d, int moved, int... places) {
        due("moved for " + d + " in " + text, x.lay(d, -1), moved);
        for (int k = 0; k < 5; k++) {
            due("place of " + k + " for " + d + " in " + text, x.lay(d, k), k < places.length ? places[k] : NONE);
        }
    }

    /** "BAD: k not -1 to 4, too"; "NONE: ... no such thing". */
    private static void layNumbers() {
        BuriedHalves x = mine("m0,1;s3,2,1,0;s4,2,1,0;");
        int[] none = {-2, 5, 6, LEAST, MOST};
        for (int k : none) {
            due("lay(0, " + k + ")", x.lay(0, k), BAD);
            due("lay(60, " + k + ")", x.lay(60, k), BAD);
        }
        due("k -1, d 61", x.lay(61, -1), BAD);
        due("no thing 2", x.lay(0, 2), NONE);
        due("no thing 4", x.lay(0, 4), NONE);
        due("thing 1", x.lay(0, 1), 2);
        due("the fifth", mine("m0,1;s1,0,1,0;s2,0,1,0;s3,0,1,0;s4,0,1,0;s5,3,1,0;").lay(0, 4), 3);
    }

    /** "none of them is TOO NEAR another one now or behind any of the next d YEARS". */
    private static void layNowAndBehindEachYear() {
        lies("m0,1;s5,0,1,0;s5,1,1,0;", 0, 1, 0, 2);
        lies("m0,1;i6,0,9,0;s5,1,1,0;", 0, 0, 0, 1);
        lies("m0,1;i6,0,9,0;s5,1,1,0;", 1, 1, 0, 2);
        // Too near behind 3 of the years alone: not ahead of it, nor at the end.
        lies("m0,1;i9,0,1,0;s6,1,1,0;", 2, 0, 0, 1);
        lies("m0,1;i9,0,1,0;s6,1,1,0;", 3, 1, 0, 2);
        lies("m0,1;i9,0,1,0;s6,1,1,0;", 8, 1, 0, 2);
        lies("m0,1;g9,0,1,0;s5,1,1,0;", 19, 0, 0, 1);
        lies("m0,1;g9,0,1,0;s5,1,1,0;", 20, 1, 0, 2);
        lies("m0,1;g14,0,1,0;s2,1,1,0;", 59, 0, 0, 1);
        lies("m0,1;g14,0,1,0;s2,1,1,0;", 60, 1, 0, 2);
    }

    /** "none but those UP now comes UP in them". */
    private static void layNoneComesUp() {
        lies("m0,1;i5,0,1,0;", 4, 0, 0);
        lies("m0,1;i5,0,1,0;", 5, NONE);
        lies("m0,1;w5,0,1,0;", 2, 0, 0);
        lies("m0,1;w5,0,1,0;", 3, NONE);
        lies("m0,1;g12,0,1,0;", 59, 0, 0);
        lies("m0,1;g12,0,1,0;", 60, NONE);
        lies("m0,1;c5,3,1,0;", 4, 0, 3);
        lies("m0,1;c5,3,1,0;", 5, NONE);
        // A clay one stays under what never comes up.
        lies("m0,1;c5,3,1,0;s4,0,1,0;", 5, 1, 0, 0);
        lies("m0,1;i0,0,1,0;s5,3,1,0;", 60, 0, 0, 3);
    }

    /** "those UP stay where they are". */
    private static void layThoseUp() {
        lies("m9,1;s0,3,1,0;s0,3,1,0;s5,3,1,0;s5,3,1,0;", 0, 1, 3, 3, 0, 3);
        // Nothing that is up covers a clay one: one that is not up must be laid there.
        lies("m0,1;s0,1,1,0;c5,1,1,0;s4,3,1,0;", 5, 1, 1, 1, 1);
        lies("m0,1;s0,1,1,0;c5,1,1,0;", 5, NONE);
    }

    /** "with fewest moved". */
    private static void layFewestMoved() {
        lies("m9,1;s5,3,1,0;s6,3,1,0;", 0, 1, 0, 3);
        lies("m9,1;s5,2,1,0;s6,1,1,0;", 0, 1, 2, 0);
        lies("m1,1;s9,1,1,0;s9,2,1,0;s1,1,1,0;s1,2,1,0;", 0, 2, 0, 2, 0, 2);
        lies("m9,1;s5,1,1,0;s6,2,1,0;s30,3,1,0;", 0, 1, 0, 2, 3);
        lies("m9,1;s5,0,1,0;s6,3,1,0;", 0, 0, 0, 3);
        lies("m1,1;s4,1,1,0;s5,1,1,0;s6,1,1,0;", 0, 1, 1, 3, 1);
        // 0 and 3, 1 and 4 lie too near: as 0 stays, 3 must come to 0 or 1, and 1 away from it, to 2 or 3.
        lies("m2,1;s1,3,1,0;s4,0,1,0;s7,3,1,0;s2,2,1,0;s6,0,1,0;", 0, 2, 3, 2, 3, 0, 0);
    }

    /** "of several the first (by PLACES, thing by thing)". */
    private static void layFirstOfSeveral() {
        lies("m9,1;s5,3,1,0;s6,3,1,0;", 3, 1, 0, 3);
        lies("m9,1;s5,0,1,0;s6,0,1,0;", 3, 1, 0, 2);
        lies("m9,1;s5,1,1,0;s6,1,1,0;", 3, 1, 1, 3);
        lies("m9,1;s5,2,1,0;s6,2,1,0;", 3, 1, 0, 2);
        lies("m0,1;s5,2,1,0;s5,2,1,0;s7,2,1,0;s7,2,1,0;", 3, 2, 0, 2, 0, 2);
    }

    /** "NONE: there are none such": how many, and each place. */
    private static void layNone() {
        lies("m9,1;s5,0,1,0;s6,1,1,0;s7,2,1,0;", 0, NONE);
        lies("m0,1;s1,0,1,0;s2,0,1,0;s3,0,1,0;s4,0,1,0;i1,0,9,0;", 1, NONE);
        lies("m0,1;i1,0,9,0;s2,0,1,0;s3,0,1,0;s4,0,1,0;s5,0,1,0;", 1, NONE);
        lies("m0,1;i1,0,9,0;s2,0,1,0;s3,0,1,0;s4,0,1,0;s5,0,1,0;", 0, 0, 0, 0, 0, 0, 0);
    }

    /** It is told for the MINE as it is now: another YEAR, with all as deep as before, is another one. */
    private static void layOfAnotherYear() {
        BuriedHalves x = mine("m0,1;g1,0,1,0;");
        laidAs("year 0", x, 4, 0, 0);
        x.years(1);
        laidAs("year 1", x, 4, NONE);
        x.undo();
        laidAs("year 0 again", x, 4, 0, 0);
        x.image(0);
        x.years(4);
        laidAs("year 4", x, 0, 0, 0);
        laidAs("year 4", x, 1, NONE);
        x.restore(0);
        laidAs("year 0 restored", x, 1, 0, 0);
    }

    /** Reads one mine, another one that differs by one number, and the first again: each is told as it is. */
    private static void layBoth(String one, int[] laid, String other, int[] laidThen) {
        BuriedHalves x = new BuriedHalves();
        for (int turn = 0; turn < 3; turn++) {
            String text = turn == 1 ? other : one;
            int[] wanted = turn == 1 ? laidThen : laid;
            read(x, text);
            due("turn " + turn + ", moved in " + text, x.lay(5, -1), wanted[0]);
            for (int k = 0; k < 5; k++) {
                due("turn " + turn + ", place of " + k + " in " + text, x.lay(5, k), k + 1 < wanted.length ? wanted[k + 1] : NONE);
            }
        }
    }

    /** It is told for the MINE as it is now: NEAR, how many THINGS, and all of the first and of the last thing. */
    private static void layOfAnotherMine() {
        int[] none = {NONE};
        layBoth("m0,1;s5,0,1,0;s6,0,1,0;", new int[] {0, 0, 0}, "m1,1;s5,0,1,0;s6,0,1,0;", new int[] {1, 0, 2});
        layBoth("m0,1;s5,0,1,0;", new int[] {0, 0}, "m0,1;s5,0,1,0;s5,0,1,0;", new int[] {1, 0, 2});
        layBoth("m0,1;", new int[] {0}, "m0,1;i5,0,1,0;", none);
        layBoth("m0,1;s3,2,1,0;", new int[] {0, 2}, "m0,1;w3,2,1,0;", none);
        layBoth("m0,1;i3,2,9,0;", new int[] {0, 2}, "m0,1;i3,2,1,0;", none);
        layBoth("m0,1;i6,2,1,0;", new int[] {0, 2}, "m0,1;i5,2,1,0;", none);
        layBoth("m0,1;i6,2,1,0;", new int[] {0, 2}, "m0,1;i6,3,1,0;", new int[] {0, 3});
        String four = "m0,1;s10,0,1,0;s20,0,1,0;s30,0,1,0;s40,0,1,0;";
        int[] all = {0, 0, 0, 0, 0, 2};
        layBoth(four + "s3,2,1,0;", all, four + "w3,2,1,0;", none);
        layBoth(four + "i3,2,9,0;", all, four + "i3,2,1,0;", none);
        layBoth(four + "i6,2,1,0;", all, four + "i5,2,1,0;", none);
        layBoth(four + "i6,2,1,0;", all, four + "i6,3,1,0;", new int[] {0, 0, 0, 0, 0, 3});
    }

    /** It is told for d: another one, the MINE being as it was. */
    private static void layOfOtherYearsAhead() {
        BuriedHalves x = mine("m0,1;i6,0,1,0;s3,1,1,0;");
        laidAs("d 2", x, 2, 0, 0, 1);
        laidAs("d 3", x, 3, 1, 0, 2);
        laidAs("d 5", x, 5, 1, 0, 2);
        laidAs("d 6", x, 6, NONE);
        laidAs("d 2 again", x, 2, 0, 0, 1);
        due("d 61 between them", x.lay(61, -1), BAD);
        laidAs("d 2 yet", x, 2, 0, 0, 1);
    }

    /** "the least DEPTH (1 to 40) it must have now ... NONE". */
    private static void digDepths() {
        due("1 now", mine("m0,1;i0,0,1,0;").dig(0, 0), 1);
        due("stone", mine("m0,1;s0,0,1,0;").dig(0, 60), 1);
        for (int d = 0; d <= 60; d++) {
            due("iron for " + d, mine("m0,1;i3,0,1,0;").dig(0, d), d < 40 ? d + 1 : NONE);
            due("wood for " + d, mine("m0,1;w3,0,1,0;").dig(0, d), d < 20 ? 2 * d + 1 : NONE);
            due("grave for " + d, mine("m0,1;g3,0,1,0;").dig(0, d), d / 5 + 1);
        }
    }

    /** "at its PLACE": a clay one may lie under another one there, and only there. */
    private static void digAtItsPlace() {
        BuriedHalves x = mine("m0,1;c3,1,1,0;s9,1,1,0;s2,0,1,0;");
        due("8 deep is enough", x.dig(0, 7), 8);
        due("9 deep is enough", x.dig(0, 8), 9);
        due("under the stone", x.dig(0, 9), 10);
        due("under the stone", x.dig(0, 60), 10);
        BuriedHalves y = mine("m0,1;c3,1,1,0;i3,1,3,0;");
        // The iron one rises in the years 0, 3 and 6: it covers what is deeper until behind the year 6.
        due("under what comes up", y.dig(0, 7), 4);
        due("a year more", y.dig(0, 8), 4);
        due("and more", y.dig(0, 11), 5);
        due("up itself", mine("m0,1;c0,1,1,0;s1,1,1,0;").dig(0, 60), 2);
    }

    // ---- whom, halves

    private static void asked(String text, int men, int which) {
        BuriedHalves x = mine(text);
        due("men for " + text, x.whom(0), men);
        due("which for " + text, x.whom(1), which);
    }

    /** "the fewest MEN who together KNOW all things": ahead of the least set. */
    private static void whomFewest() {
        asked("m0,3;s1,0,1,5;s1,0,1,6;", 1, 4);
        asked("m0,6;s1,0,1,33;s1,0,1,34;s1,0,1,36;s1,0,1,40;s1,0,1,48;", 1, 32);
        asked("m0,6;s1,0,1,17;s1,0,1,18;s1,0,1,36;s1,0,1,40;", 2, 48);
        asked("m0,6;s1,0,1,1;s1,0,1,2;s1,0,1,4;s1,0,1,8;s1,0,1,16;", 5, 31);
        asked("m0,6;s1,0,1,2;s1,0,1,4;s1,0,1,8;s1,0,1,16;s1,0,1,32;", 5, 62);
        asked("m0,1;s1,0,1,1;", 1, 1);
        asked("m0,1;", 0, 0);
    }

    /** "which (bits), of several the least". */
    private static void whomLeastOfSeveral() {
        asked("m0,6;s1,0,1,63;", 1, 1);
        asked("m0,6;s1,0,1,62;s0,0,1,62;", 1, 2);
        asked("m0,6;s1,0,1,48;", 1, 16);
        asked("m0,4;s1,0,1,3;s1,0,1,12;", 2, 5);
        asked("m0,4;s1,0,1,9;s1,0,1,6;", 2, 3);
    }

    /** "NONE: one is known to nobody": any one, UP or not. */
    private static void whomKnownToNobody() {
        for (int t = 0; t < 5; t++) {
            StringBuilder text = new StringBuilder("m0,2;");
            for (int k = 0; k < 5; k++) {
                text.append(k == t ? "s0,0,1,0;" : "s1,0,1,3;");
            }
            asked(text.toString(), NONE, NONE);
        }
        BuriedHalves x = mine("m0,2;s1,0,1,0;");
        x.tell(0, 1, 1);
        due("learned", x.whom(1), 2);
        x.tell(0, 1, 0);
        due("forgotten", x.whom(1), NONE);
    }

    /** "pairs of things, both of which one man KNOWS: how many such pairs; the first (... NONE)". */
    private static void halvesPairs() {
        BuriedHalves all = mine("m0,1;" + "s1,0,1,1;".repeat(5));
        due("ten pairs", all.halves(0), 10);
        due("0 and 1", all.halves(1), 1);
        BuriedHalves last = mine("m0,6;s1,0,1,1;s1,0,1,2;s1,0,1,4;s1,0,1,40;s0,0,1,32;");
        due("one pair", last.halves(0), 1);
        due("3 and 4", last.halves(1), 34);
        BuriedHalves more = mine("m0,2;s1,0,1,3;s1,0,1,3;");
        due("two men, one pair", more.halves(0), 1);
        due("0 and 1", more.halves(1), 1);
        BuriedHalves later = mine("m0,3;s1,0,1,4;s1,0,1,3;s1,0,1,1;s1,0,1,4;s1,0,1,2;");
        due("three pairs", later.halves(0), 3);
        due("0 and 3 ahead of 1 and 2", later.halves(1), 3);
        BuriedHalves none = mine("m0,2;s1,0,1,1;s1,0,1,2;s1,0,1,0;");
        due("no pair", none.halves(0), 0);
        due("none", none.halves(1), NONE);
        BuriedHalves one = mine("m0,2;s1,0,1,3;");
        due("one alone", one.halves(0), 0);
        due("one alone", one.halves(1), NONE);
    }

    // ---- fits

    /** "BAD: THING, ROW, n, what": "n YEARS (1 to 16)". */
    private static void fitsNumbers() {
        BuriedHalves x = mine("m0,1;s0,0,1,0;s4,0,1,0;");
        x.row(0, 0, 40);
        int[] noRow = {-1, 8, LEAST, MOST};
        int[] noN = {0, -1, 17, 40, LEAST, MOST};
        int[] noWhat = {-1, 3, LEAST, MOST};
        for (int t : NO_THING) {
            due("thing " + t, x.fits(t, 0, 0, 1, 0), BAD);
        }
        for (int r : noRow) {
            due("row " + r, x.fits(0, r, 0, 1, 0), BAD);
        }
        for (int n : noN) {
            due("n " + n, x.fits(0, 0, 0, n, 0), BAD);
        }
        for (int what : noWhat) {
            due("what " + what, x.fits(0, 0, 0, 1, what), BAD);
        }
        due("no finding", x.status(), 0);
        due("1 of it", x.fits(0, 0, 0, 1, 0), 62);
        due("16 of it", x.fits(0, 0, 0, 16, 0), 62);
    }

    /** fits: "NULL; PLACE", n ITEMS from i on. */
    private static void fitsFindings() {
        BuriedHalves x = mine("m0,1;s0,0,1,0;");
        x.row(0, 0, 40);
        x.row(1, 0, 3);
        x.row(2, 0, 0);
        due("missing", x.fits(0, 3, 0, 1, 0), NULL_FOUND);
        due("status", x.status(), 1);
        int[] noPlace = {-1, 40, 41, LEAST, MOST};
        for (int i : noPlace) {
            due("place " + i, x.fits(0, 0, i, 1, 0), PLACE_FOUND);
            due("status", x.status(), 2);
        }
        due("the last one", x.fits(0, 0, 39, 1, 0), 62);
        due("the last 16", x.fits(0, 0, 24, 16, 0), 62);
        due("one too many", x.fits(0, 0, 25, 16, 0), PLACE_FOUND);
        due("all 3", x.fits(0, 1, 0, 3, 0), 62);
        due("4 of 3", x.fits(0, 1, 0, 4, 0), PLACE_FOUND);
        due("3 of 3 from 1 on", x.fits(0, 1, 1, 3, 0), PLACE_FOUND);
        due("1 of none", x.fits(0, 2, 0, 1, 0), PLACE_FOUND);
    }

    /** "(the first item: behind 1 YEAR)", and each of the n items must be so, the last one, too. */
    private static void fitsFromBehindOneYear() {
        BuriedHalves x = mine("m0,1;i20,0,1,0;");
        int[] depths = new int[16];
        for (int k = 0; k < 16; k++) {
            depths[k] = 19 - k;
        }
        fill(x, 0, 0, depths);
        due("iron or clay", x.fits(0, 0, 0, 16, 0), 2 | 4);
        due("from the second on", x.fits(0, 0, 1, 15, 0), 0);
        for (int k = 0; k < 16; k++) {
            x.set(0, k, depths[k] + 1);
            due("not so in year " + (k + 1), x.fits(0, 0, 0, 16, 0), 0);
            due("not asked for it", k == 0 ? 6 : x.fits(0, 0, 0, k, 0), 6);
            x.set(0, k, depths[k]);
        }
        for (int lane = 0; lane < 3; lane++) {
            fill(x, 1, lane, 19, 18);
            due("by lane " + lane, x.fits(0, 1, 0, 2, 0), 2 | 4);
        }
        fill(x, 2, 2, 19 + 256, 18);
        due("an int is read whole", x.fits(0, 2, 0, 2, 0), 0);
        x.years(4);
        fill(x, 3, 0, 15);
        due("from now on: a grave rises in year 4", x.fits(0, 3, 0, 1, 0), 2 | 4 | 32);
    }

    /** "SORTS: KINDS (bits 1 to 5) of it by which it is so": its SLOW and the others are as they are. */
    private static void sortsBits() {
        BuriedHalves x = mine("m0,1;s9,1,2,0;s8,1,1,0;s7,0,1,0;");
        fill(x, 0, 0, 8, 8, 7, 7, 6);
        fill(x, 1, 0, 9, 9, 9, 9, 9);
        fill(x, 2, 0, 7, 7, 5, 5, 3);
        fill(x, 3, 0, 9, 9, 9, 9, 8);
        due("iron", x.fits(0, 0, 0, 5, 0), 2);
        due("clay under a stone, or a stone", x.fits(0, 1, 0, 5, 0), 4 | 16);
        due("wood", x.fits(0, 2, 0, 5, 0), 8);
        due("grave", x.fits(0, 3, 0, 5, 0), 32);
        due("all that do not rise in 4 years", x.fits(0, 1, 0, 4, 0), 4 | 16 | 32);
        due("none", x.fits(1, 2, 0, 5, 0), 0);
        fill(x, 4, 0, 0, 0, 0);
        due("not up", x.fits(0, 4, 0, 3, 0), 0);
        BuriedHalves y = mine("m0,1;s0,1,2,0;s1,1,1,0;");
        fill(y, 0, 0, 0, 0, 0);
        due("each kind that is up stays so", y.fits(0, 0, 0, 3, 0), 62);
        due("1 deep, wood, iron, clay: 0 at least", y.fits(1, 0, 0, 3, 0), 2 | 4 | 8);
    }

    /** "SLOWS: SLOW (1 to 9, bits) by which it is so". */
    private static void slowsBits() {
        BuriedHalves x = mine("m0,1;i20,1,5,0;s8,1,1,0;");
        fill(x, 0, 0, 19);
        due("year 0: any", x.fits(0, 0, 0, 1, 1), 1022);
        due("a stone: none so", x.fits(1, 0, 0, 1, 1), 0);
        fill(x, 1, 0, 8);
        due("a stone: any", x.fits(1, 1, 0, 1, 1), 1022);
        for (int slow = 1; slow <= 9; slow++) {
            for (int k = 0; k < 16; k++) {
                if (k == 0) {
                    x.row(2, 0, 16);
                }
                x.set(2, k, 20 - (k / slow + 1));
            }
            due("slow " + slow, x.fits(0, 2, 0, 16, 1), 1 << slow);
        }
        due("kept as told", x.thing(0, 2), 5);
    }

    /** "LAIN: a row tells which things are TOO NEAR one (bits) behind each of n YEARS: PLACES (bits) of it". */
    private static void lainBits() {
        BuriedHalves y = mine("m1,1;i6,3,1,0;s5,0,1,0;s4,2,1,0;s0,1,1,0;");
        fill(y, 0, 0, 2, 2 | 4, 4);
        due("near 1 behind 1", y.fits(0, 0, 0, 1, 2), 1);
        due("near 1 and 2 behind 1", y.fits(0, 0, 1, 1, 2), 2);
        due("near 2 behind 1", y.fits(0, 0, 2, 1, 2), 4 | 8);
        // Behind 1, 2, 3 years it is 5, 4, 3 deep: 5 deep, at 0 or 1 it is near thing 1; at 1 to 3 near thing 2.
        fill(y, 0, 0, 2, 2, 0);
        due("place 0", y.fits(0, 0, 0, 3, 2), 1);
        fill(y, 0, 0, 6, 6, 4);
        due("place 1", y.fits(0, 0, 0, 3, 2), 2);
        fill(y, 0, 0, 4, 4, 4);
        due("places 2 and 3", y.fits(0, 0, 0, 3, 2), 12);
        fill(y, 0, 0, 4, 4, 0);
        due("nowhere", y.fits(0, 0, 0, 3, 2), 0);
        fill(y, 0, 0, 5, 5, 5);
        due("never near itself", y.fits(0, 0, 0, 3, 2), 0);
        BuriedHalves z = mine("m9,1;s0,3,1,0;s5,0,1,0;");
        fill(z, 0, 0, 0);
        due("one that is up, anywhere", z.fits(0, 0, 0, 1, 2), 15);
        due("alone below, anywhere", z.fits(1, 0, 0, 1, 2), 15);
        due("kept as told", z.thing(0, 1), 3);
    }

    // ---- moles

    private static void fraction(String text, int d, int c, int above, int below) {
        BuriedHalves x = mine(text);
        due("above, d " + d + ", c " + c + ", " + text, x.moles(d, c, 0), above);
        due("below, d " + d + ", c " + c + ", " + text, x.moles(d, c, 1), below);
    }

    /** "(c 0 to 10)", "BAD". */
    private static void molesNumbers() {
        BuriedHalves x = mine("m0,1;s1,0,1,0;");
        int[] none = {-1, 11, LEAST, MOST};
        for (int c : none) {
            due("moles(0, " + c + ", 0)", x.moles(0, c, 0), BAD);
            due("moles(0, " + c + ", 1)", x.moles(0, c, 1), BAD);
        }
        int[] above = {1, 9, 4, 7, 3, 1, 2, 3, 1, 1, 0};
        int[] below = {1, 10, 5, 10, 5, 2, 5, 10, 5, 10, 1};
        for (int c = 0; c <= 10; c++) {
            due("above " + c, x.moles(0, c, 0), above[c]);
            due("below " + c, x.moles(0, c, 1), below[c]);
        }
        due("a stone 1 deep, 60 years", x.moles(60, 3, 0), 7);
    }

    /** "each thing that is not UP is 1 less deep now ... that none of these is UP behind d YEARS". */
    private static void molesOfThoseNotUp() {
        fraction("m0,1;s0,0,1,0;", 0, 10, 1, 1);
        fraction("m0,1;s0,0,1,0;s1,0,1,0;", 0, 3, 7, 10);
        fraction("m0,1;s2,0,1,0;", 60, 10, 1, 1);
        fraction("m0,1;i1,0,9,0;", 0, 0, 1, 1);
        fraction("m0,1;i1,0,9,0;", 1, 0, 0, 1);
        fraction("m0,1;i2,0,1,0;", 1, 3, 7, 10);
        fraction("m0,1;i2,0,1,0;", 2, 3, 0, 1);
        fraction("m0,1;w3,0,1,0;", 1, 4, 3, 5);
        fraction("m0,1;g13,0,1,0;", 60, 1, 9, 10);
        fraction("m0,1;g12,0,1,0;", 60, 1, 0, 1);
        fraction("m0,1;g12,0,1,0;", 59, 1, 9, 10);
        // Dug at, the stone comes up and covers no more; dug at, the clay one is as deep as the stone.
        fraction("m0,1;s1,0,1,0;c3,0,1,0;", 60, 3, 7, 10);
        fraction("m0,1;s2,0,1,0;c3,0,1,0;", 60, 3, 79, 100);
        fraction("m0,1;s3,0,1,0;c3,0,1,0;", 60, 3, 21, 100);
    }

    /** "each by itself", "fractions, told as two numbers in lowest terms (0 is 0 by 1)". */
    private static void molesLowestTerms() {
        String five = "m0,1;" + "s1,0,1,0;".repeat(5);
        fraction(five, 0, 0, 1, 1);
        fraction(five, 0, 1, 59049, 100000);
        fraction(five, 0, 2, 1024, 3125);
        fraction(five, 0, 5, 1, 32);
        fraction(five, 0, 9, 1, 100000);
        fraction(five, 0, 10, 0, 1);
        fraction("m0,1;s1,0,1,0;s1,0,1,0;", 0, 4, 9, 25);
        fraction("m0,1;i1,0,1,0;s1,0,1,0;", 1, 4, 0, 1);
    }

    // ---- kinds, asks

    /** kind: "(1 to 5). BAD." */
    private static void kindBounds() {
        BuriedHalves x = mine("m0,1;g1,0,1,0;i1,0,1,0;");
        for (int t : NO_THING) {
            due("kind(" + t + ")", x.kind(t), BAD);
        }
        due("the most", x.kind(0), 5);
        due("the least", x.kind(1), 1);
    }

    /** as: "(0 .. 5)", "BAD; KIND: it is no such one"; "0 THING; 1 IRON, a THING; 2 CLAY, an IRON; 3 WOOD, an IRON; ...". */
    private static void asKinds() {
        BuriedHalves x = mine("m0,1;g1,0,1,0;s1,0,1,0;w1,0,1,0;c1,0,1,0;i1,0,1,0;");
        int[] is = {1 | 16 | 32, 1 | 16, 1 | 2 | 8, 1 | 2 | 4, 1 | 2};
        for (int t = 0; t < 5; t++) {
            for (int kind = 0; kind < 6; kind++) {
                boolean such = ((is[t] >> kind) & 1) == 1;
                due("as(" + t + ", " + kind + ")", x.as(t, kind), such ? t : KIND_FOUND);
                due("status", x.status(), such ? 0 : 3);
            }
        }
        int[] noKind = {-1, 6, LEAST, MOST};
        for (int kind : noKind) {
            due("as(0, " + kind + ")", x.as(0, kind), BAD);
        }
        int[] noThing = {-1, 5, LEAST, MOST};
        for (int t : noThing) {
            due("as(" + t + ", 0)", x.as(t, 0), BAD);
        }
    }

    private static void tells(BuriedHalves x, int thing, int what, int answer, int... bodies) {
        String call = "ask(" + thing + ", " + what + ")";
        due(call, x.ask(thing, what), answer);
        for (int i = 0; i < 16; i++) {
            due("trace(" + i + ") of " + call, x.trace(i), i < bodies.length ? bodies[i] : NONE);
        }
    }

    /** Part 4: each ask of each kind, "asked once" where it is told; of the first and the last thing, of one that is UP. */
    private static void askBodies() {
        BuriedHalves x = mine("m0,1;g0,0,9,0;s40,0,1,0;w0,0,9,0;c40,0,1,0;i40,0,9,0;");
        tells(x, 0, 0, 2 * (9 - 100), 14, 13, 10);
        tells(x, 0, 1, 0 - 2 * (9 - 100), 23, 20, 14, 13, 10);
        tells(x, 1, 0, 1 - 100, 13, 10);
        tells(x, 1, 1, 1 - (1 - 100), 23, 20, 13, 10);
        BuriedHalves y = mine("m0,1;g0,0,9,0;s40,0,1,0;w0,0,9,0;c40,0,1,0;i40,0,9,0;");
        tells(y, 2, 0, 9 + 2 - 1000, 11, 10, 22, 21, 20);
        tells(y, 2, 1, 2 - 1000, 22, 21, 20);
        tells(y, 3, 0, -(1 + 2 * (3 + 40)), 12, 11, 10, 24, 21, 20);
        tells(y, 3, 1, 2 * (3 + 40), 24, 21, 20);
        tells(y, 4, 0, 9 + 4 + 40, 11, 10, 21, 20);
        tells(y, 4, 1, 44, 21, 20);
    }

    /** ask: "BAD (THE TRACE stays then). THE TRACE is empty ahead of it." */
    private static void askBad() {
        BuriedHalves x = mine("m0,1;c5,0,1,0;s4,0,1,0;");
        x.ask(0, 0);
        int[] six = {12, 11, 10, 24, 21, 20};
        for (int what : NOT_ONE_OF_TWO) {
            due("ask(0, " + what + ")", x.ask(0, what), BAD);
        }
        for (int t : NO_THING) {
            due("ask(" + t + ", 0)", x.ask(t, 0), BAD);
        }
        for (int i = 0; i < 7; i++) {
            due("trace(" + i + ") stays", x.trace(i), i < 6 ? six[i] : NONE);
        }
        x.ask(1, 0);
        due("a shorter one", x.trace(0), 13);
        due("its end", x.trace(1), 10);
        due("nothing is left of the longer one", x.trace(2), NONE);
        x.ask(1, 0);
        due("empty ahead of it", x.trace(2), NONE);
    }

    /** trace: "Number i of THE TRACE; NONE." */
    private static void traceBounds() {
        BuriedHalves x = new BuriedHalves();
        int[] none = {-1, 6, 15, 16, 17, LEAST, MOST};
        due("empty at first", x.trace(0), NONE);
        read(x, "m0,1;c5,0,1,0;");
        due("empty yet", x.trace(0), NONE);
        x.ask(0, 0);
        for (int i : none) {
            due("trace(" + i + ")", x.trace(i), NONE);
        }
        due("the last one", x.trace(5), 20);
        x.years(1);
        x.undo();
        read(x, "m0,1;");
        due("it stays, whatever comes but an ask", x.trace(0), 12);
    }
}
