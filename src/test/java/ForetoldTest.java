/** Promises 15 to 25: what is foretold, sought and guessed; nothing of it changes the mine. */
public final class ForetoldTest {
    private static final int BAD = BuriedHalves.BAD;
    private static final int STATE = BuriedHalves.STATE;
    private static final int NONE = BuriedHalves.NONE;
    private static int wrong = 0;

    private static void due(String call, int got, int want) {
        if (got != want) {
            wrong++;
            System.out.println(call + " answered " + got + ", due is " + want);
        }
    }

    private static BuriedHalves mine(String text) {
        BuriedHalves x = new BuriedHalves();
        for (int i = 0; i < text.length(); i++) {
            x.feed(text.charAt(i));
        }
        x.mine();
        return x;
    }

    public static void main(String[] args) {
        noMine();
        depthsAhead();
        comingUp();
        troubles();
        laying();
        layingClay();
        layingAgain();
        digging();
        asking();
        sharing();
        fitting();
        fittingRefused();
        digOfMoles();
        System.exit(wrong == 0 ? 0 : 1);
    }

    private static void noMine() {
        BuriedHalves x = new BuriedHalves();
        x.row(0, 0, 4);
        due("ahead", x.ahead(0, 0), BAD);
        due("up", x.up(61), STATE);
        due("comesUp", x.comesUp(0), BAD);
        due("first", x.first(2), STATE);
        due("trouble", x.trouble(2), STATE);
        due("lay", x.lay(61, 9), STATE);
        due("dig", x.dig(0, 0), BAD);
        due("whom", x.whom(2), STATE);
        due("halves", x.halves(2), STATE);
        due("fits", x.fits(0, 0, 0, 1, 0), BAD);
        due("moles", x.moles(61, 11, 2), STATE);

        BuriedHalves empty = mine("m0,1;");
        due("up of none", empty.up(60), 0);
        due("first of none", empty.first(0), NONE);
        due("trouble of none", empty.trouble(0), NONE);
        due("lay of none", empty.lay(60, -1), 0);
        due("lay of none, 0", empty.lay(60, 0), NONE);
        due("whom of none", empty.whom(0), 0);
        due("who of none", empty.whom(1), 0);
        due("halves of none", empty.halves(0), 0);
        due("halves of none", empty.halves(1), NONE);
        due("moles of none", empty.moles(60, 10, 0), 1);
        due("moles of none", empty.moles(60, 10, 1), 1);
    }

    private static void depthsAhead() {
        BuriedHalves x = mine("m1,2;w5,0,2,1;i4,2,3,2;");
        int[] wood = {5, 3, 3, 1, 1, 0, 0};
        int[] iron = {4, 3, 3, 3, 2, 2, 2};
        int[] up = {0, 0, 0, 0, 0, 1, 1};
        for (int d = 0; d < 7; d++) {
            due("wood " + d, x.ahead(0, d), wood[d]);
            due("iron " + d, x.ahead(1, d), iron[d]);
            due("up " + d, x.up(d), up[d]);
        }
        due("both up", x.up(10), 3);
        due("not yet", x.up(9), 1);
        due("60", x.up(60), 3);
        due("61", x.up(61), BAD);
        due("-1", x.up(-1), BAD);
        due("ahead 60", x.ahead(0, 60), 0);
        due("ahead 61", x.ahead(0, 61), BAD);
        due("ahead -1", x.ahead(0, -1), BAD);
        due("thing 2", x.ahead(2, 0), BAD);
        due("thing -1", x.ahead(-1, 0), BAD);
        due("nothing changed", x.thing(0, 0), 5);
        due("no year passed", x.count(3), 0);
        x.years(1);
        due("from then on", x.ahead(0, 2), 1);
    }

    private static void comingUp() {
        BuriedHalves x = mine("m1,2;w5,0,2,1;i4,2,3,2;s1,3,1,0;s0,3,1,0;g2,3,1,0;");
        due("wood", x.comesUp(0), 5);
        due("iron", x.comesUp(1), 10);
        due("stone", x.comesUp(2), NONE);
        due("up", x.comesUp(3), 0);
        due("grave", x.comesUp(4), 10);
        due("thing 5", x.comesUp(5), BAD);
        due("thing -1", x.comesUp(-1), BAD);
        due("first", x.first(0), 0);
        due("behind", x.first(1), 5);
        due("what 2", x.first(2), BAD);
        due("what -1", x.first(-1), BAD);
        x.bury(0, 0, 40);
        due("of two the least", x.first(0), 1);
        due("behind 10", x.first(1), 10);

        BuriedHalves y = mine("m1,1;i15,0,7,0;i16,1,7,0;i12,2,9,0;i11,3,9,0;");
        due("behind 99", y.comesUp(0), 99);
        due("behind more", y.comesUp(1), NONE);
        due("behind 100", y.comesUp(2), NONE);
        due("behind 91", y.comesUp(3), 91);
        y.bury(3, 0, 40);
        due("first at 99", y.first(1), 99);
        due("it", y.first(0), 0);
        y.bury(0, 0, 16);
        due("first beyond", y.first(1), NONE);
        due("none", y.first(0), NONE);
        due("all up", mine("m1,1;i0,0,7,0;").first(0), NONE);
    }

    private static void troubles() {
        BuriedHalves x = mine("m0,1;i40,0,7,0;s25,1,1,0;s9,3,1,0;");
        due("behind 99", x.trouble(0), 99);
        due("the two", x.trouble(1), 1);
        due("what 2", x.trouble(2), BAD);
        due("what -1", x.trouble(-1), BAD);
        x.bury(1, 1, 24);
        due("behind 106", x.trouble(0), NONE);
        due("none", x.trouble(1), NONE);
        x.bury(1, 2, 25);
        due("two apart", x.trouble(0), NONE);
        x.bury(1, 2, 9);
        due("now", x.trouble(0), 0);
        due("1 and 2", x.trouble(1), 12);

        BuriedHalves y = mine("m1,1;s5,1,1,0;i9,3,1,0;s7,3,1,0;s5,0,1,0;");
        due("now", y.trouble(0), 0);
        due("first two", y.trouble(1), 3);
        y.bury(3, 3, 1);
        due("behind 1", y.trouble(0), 1);
        due("1 and 2", y.trouble(1), 12);
        due("up is no trouble", mine("m9,1;i1,0,1,0;i2,3,1,0;s0,0,1,0;").trouble(0), NONE);
    }

    private static void lies(BuriedHalves x, int d, int moved, int... places) {
        due("moved for " + d, x.lay(d, -1), moved);
        for (int k = 0; k < 5; k++) {
            due("place of " + k + " for " + d, x.lay(d, k), k < places.length ? places[k] : NONE);
        }
    }

    private static void laying() {
        BuriedHalves x = mine("m9,1;s5,0,1,0;s6,0,1,0;");
        lies(x, 0, 1, 0, 2);
        lies(x, 60, 1, 0, 2);
        due("d 61", x.lay(61, -1), BAD);
        due("d -1", x.lay(-1, -1), BAD);
        due("k -2", x.lay(0, -2), BAD);
        due("k 5", x.lay(0, 5), BAD);
        due("nothing moved", x.thing(1, 1), 0);
        lies(mine("m9,1;s5,1,1,0;s6,1,1,0;"), 3, 1, 1, 3);
        lies(mine("m0,1;s5,1,1,0;s6,1,1,0;"), 3, 0, 1, 1);
        lies(mine("m9,1;s5,0,1,0;s6,1,1,0;s7,2,1,0;"), 0, NONE);
        lies(mine("m9,1;s0,1,1,0;s5,1,1,0;s6,1,1,0;"), 0, 1, 1, 1, 3);
        lies(mine("m1,1;s1,0,1,0;s2,1,1,0;s3,2,1,0;s4,2,1,0;s5,2,1,0;"), 9, 3, 0, 2, 0, 2, 0);
        // Ahead of the years a stone must lie apart from what only comes nearer.
        BuriedHalves y = mine("m0,1;i5,0,1,0;s3,1,1,0;");
        lies(y, 1, 0, 0, 1);
        lies(y, 2, 1, 0, 2);
        lies(y, 4, 1, 0, 2);
        lies(y, 5, NONE);
        lies(mine("m0,1;i0,0,1,0;s3,1,1,0;"), 60, 0, 0, 1);
    }

    private static void layingClay() {
        BuriedHalves x = mine("m0,1;s1,3,1,0;c2,0,1,0;");
        lies(x, 1, 0, 3, 0);
        lies(x, 2, 1, 0, 0);
        lies(x, 60, 1, 0, 0);
        BuriedHalves y = mine("m1,1;s1,3,1,0;c2,0,1,0;");
        lies(y, 1, 0, 3, 0);
        lies(y, 2, NONE);
        // The clay one must first be covered, and what covers it sinks nowhere: it must stay itself.
        lies(mine("m0,1;g2,1,1,0;c4,2,1,0;"), 9, 1, 1, 1);
        lies(mine("m0,1;g2,1,1,0;c4,2,1,0;"), 10, NONE);
        lies(mine("m0,1;s0,2,1,0;c4,2,1,0;"), 3, 0, 2, 2);
        lies(mine("m0,1;s0,2,1,0;c4,2,1,0;"), 4, NONE);
    }

    private static void layingAgain() {
        BuriedHalves x = mine("m9,1;s5,0,1,0;s6,0,1,0;");
        lies(x, 7, 1, 0, 2);
        x.bury(1, 3, 6);
        lies(x, 7, 0, 0, 3);
        x.undo();
        lies(x, 7, 1, 0, 2);
        x.bury(0, 0, 30);
        lies(x, 7, 0, 0, 0);
        // Each text differs from the one before by one kind of number, and is asked first what that was asked last.
        String[] texts = {
            "m9,1;s5,0,1,0;", "m9,1;s5,0,1,0;s6,0,1,0;", "m0,1;s5,0,1,0;s6,0,1,0;", "m0,1;s5,0,1,0;s5,1,1,0;",
            "m0,1;s5,1,1,0;s5,3,1,0;", "m0,1;s8,0,1,0;", "m0,1;i8,0,1,0;", "m0,1;i8,0,2,0;", "m0,1;c8,0,2,0;s7,1,1,0;",
            "m0,1;c8,0,2,0;s1,0,1,0;", "m0,1;c8,0,2,0;s1,1,1,0;", "m0,1;c8,0,1,0;s1,1,1,0;"};
        int[] moved = {0, 1, 0, 1, 0, 0, 0, 0, 1, 0, 0, 1};
        int[] movedLater = {0, 1, 0, 1, 0, 0, NONE, 0, 1, 0, 0, 1};
        BuriedHalves one = new BuriedHalves();
        for (int k = 0; k < texts.length; k++) {
            for (int i = 0; i < texts[k].length(); i++) {
                one.feed(texts[k].charAt(i));
            }
            one.mine();
            due("moved later in " + texts[k], one.lay(8, -1), movedLater[k]);
            due("moved in " + texts[k], one.lay(7, -1), moved[k]);
            due("moved in " + texts[k] + " again", one.lay(8, -1), movedLater[k]);
        }
        BuriedHalves y = mine("m0,1;i9,0,9,0;");
        due("this year", y.lay(36, -1), 0);
        y.years(10);
        due("later on", y.lay(60, -1), 0);
        due("as deep", y.thing(0, 0), 7);
        y.bury(0, 0, 6);
        due("60 years hold six rises and more", y.lay(60, -1), NONE);
        due("53 do not", y.lay(53, -1), 0);
        due("54 do", y.lay(54, -1), NONE);
    }

    private static void digging() {
        BuriedHalves x = mine("m1,2;w5,0,2,1;i4,2,3,2;s0,3,1,0;w3,1,1,0;g1,1,1,0;");
        due("wood 0", x.dig(0, 0), 1);
        due("wood 5", x.dig(0, 5), 7);
        due("wood 4", x.dig(0, 4), 5);
        due("iron 5", x.dig(1, 5), 3);
        due("up, but a stone", x.dig(2, 60), 1);
        due("39 at most", x.dig(3, 19), 39);
        due("deeper than 40", x.dig(3, 20), NONE);
        due("grave", x.dig(4, 5), 2);
        due("grave 60", x.dig(4, 60), 13);
        due("d 61", x.dig(0, 61), BAD);
        due("d -1", x.dig(0, -1), BAD);
        due("thing 5", x.dig(5, 0), BAD);
        due("thing -1", x.dig(-1, 0), BAD);
        due("nothing changed", x.thing(3, 0), 3);
        due("40 itself", mine("m0,1;i1,0,1,0;").dig(0, 39), 40);
        due("41", mine("m0,1;i1,0,1,0;").dig(0, 40), NONE);
        BuriedHalves clay = mine("m0,1;c1,0,1,0;s6,0,1,0;");
        due("below its cover", clay.dig(0, 20), 7);
        due("above it", clay.dig(0, 3), 4);
    }

    private static void asking() {
        BuriedHalves x = mine("m0,3;s1,0,1,3;s2,1,1,6;s3,2,1,4;");
        due("how many", x.whom(0), 2);
        due("which", x.whom(1), 5);
        due("what 2", x.whom(2), BAD);
        due("what -1", x.whom(-1), BAD);
        x.tell(2, 1, 1);
        due("one", x.whom(0), 1);
        due("man 1", x.whom(1), 2);
        x.tell(0, 0, 0);
        x.tell(0, 1, 0);
        due("known to nobody", x.whom(0), NONE);
        due("known to nobody", x.whom(1), NONE);
        BuriedHalves all = mine("m0,6;s1,0,1,1;s1,0,1,2;s1,0,1,4;s1,0,1,8;s1,0,1,48;");
        due("five", all.whom(0), 5);
        due("least", all.whom(1), 31);
    }

    private static void sharing() {
        BuriedHalves x = mine("m0,3;s1,0,1,1;s2,1,1,6;s3,2,1,4;s0,0,1,5;");
        due("pairs", x.halves(0), 4);
        due("first", x.halves(1), 3);
        due("what 2", x.halves(2), BAD);
        due("what -1", x.halves(-1), BAD);
        x.tell(0, 0, 0);
        due("first now", x.halves(1), 12);
        due("pairs now", x.halves(0), 3);
        x.tell(2, 2, 0);
        due("first left", x.halves(1), 13);
        x.tell(1, 2, 0);
        due("no pair", x.halves(0), 0);
        due("none", x.halves(1), NONE);
    }

    private static void tellRow(BuriedHalves x, int row, int... items) {
        x.row(row, 0, items.length);
        for (int i = 0; i < items.length; i++) {
            x.set(row, i, items[i]);
        }
    }

    private static void fitting() {
        BuriedHalves x = mine("m2,1;c5,1,2,0;s3,1,1,0;s4,3,1,0;");
        tellRow(x, 0, 5, 5, 5, 5, 5, 4);
        due("sorts, 3 years", x.fits(0, 0, 0, 3, 0), 52);
        due("sorts, 5 years", x.fits(0, 0, 0, 5, 0), 20);
        due("sorts, 6 years", x.fits(0, 0, 0, 6, 0), 0);
        due("sorts, from 1 on", x.fits(0, 0, 1, 5, 0), 32);
        due("slows", x.fits(0, 0, 0, 4, 1), 1022);
        tellRow(x, 1, 2, 6, 4, 8);
        due("lain 2", x.fits(0, 1, 0, 1, 2), 3);
        due("lain 6", x.fits(0, 1, 1, 1, 2), 4);
        due("lain 4", x.fits(0, 1, 2, 1, 2), 8);
        due("lain 8", x.fits(0, 1, 3, 1, 2), 0);

        BuriedHalves y = mine("m0,1;i9,0,5,0;w20,2,3,0;");
        tellRow(y, 2, 8, 8, 8, 7, 7, 7, 6);
        due("slow 3", y.fits(0, 2, 0, 7, 1), 8);
        due("slow 1 alone", y.fits(0, 2, 2, 2, 1), 2);
        due("slow 3 and up", y.fits(0, 2, 0, 3, 1), 1016);
        tellRow(y, 3, 18, 18, 18, 16);
        due("wood", y.fits(1, 3, 0, 4, 0), 8);
        due("its slow", y.fits(1, 3, 0, 4, 1), 8);
        tellRow(y, 4, 0, 0, 0, 0, 0, 0, 0, 0, 0, 0, 0, 0, 0, 0, 0, 0, 1);
        due("alone, 16 years", y.fits(0, 4, 0, 16, 2), 15);
        due("17 years", y.fits(0, 4, 0, 17, 2), BAD);
        due("the last of it", y.fits(0, 4, 1, 16, 2), 0);
        due("nothing changed", y.thing(0, 2) * 100 + y.thing(0, 1) * 10 + y.kind(0), 501);
    }

    private static void fittingRefused() {
        BuriedHalves x = mine("m2,1;c5,1,2,0;s3,1,1,0;");
        x.row(0, 2, 4);
        due("thing 2", x.fits(2, 0, 0, 1, 0), BAD);
        due("thing -1", x.fits(-1, 0, 0, 1, 0), BAD);
        due("row 8", x.fits(0, 8, 0, 1, 0), BAD);
        due("row -1", x.fits(0, -1, 0, 1, 0), BAD);
        due("n 0", x.fits(0, 0, 0, 0, 0), BAD);
        due("n 17", x.fits(0, 0, 0, 17, 0), BAD);
        due("what 3", x.fits(0, 0, 0, 1, 3), BAD);
        due("what -1", x.fits(0, 0, 0, 1, -1), BAD);
        due("bad ahead of null", x.fits(0, 1, 0, 17, 0), BAD);
        due("missing", x.fits(0, 1, -1, 1, 0), -1000011);
        due("i -1", x.fits(0, 0, -1, 1, 0), -1000012);
        due("i 4", x.fits(0, 0, 4, 1, 0), -1000012);
        due("beyond", x.fits(0, 0, 1, 4, 0), -1000012);
        due("far", x.fits(0, 0, Integer.MAX_VALUE, 4, 0), -1000012);
    }

    private static void fraction(BuriedHalves x, int d, int c, int above, int below) {
        due("above, d " + d + " c " + c, x.moles(d, c, 0), above);
        due("below, d " + d + " c " + c, x.moles(d, c, 1), below);
    }

    private static void digOfMoles() {
        BuriedHalves x = mine("m0,1;i1,0,9,0;s0,1,1,0;");
        fraction(x, 0, 3, 7, 10);
        fraction(x, 0, 0, 1, 1);
        fraction(x, 0, 10, 0, 1);
        fraction(x, 0, 5, 1, 2);
        fraction(x, 1, 3, 0, 1);
        due("d 61", x.moles(61, 0, 0), BAD);
        due("d -1", x.moles(-1, 0, 0), BAD);
        due("c 11", x.moles(0, 11, 0), BAD);
        due("c -1", x.moles(0, -1, 0), BAD);
        due("what 2", x.moles(0, 0, 2), BAD);
        due("what -1", x.moles(0, 0, -1), BAD);
        due("nothing changed", x.thing(0, 0), 1);
        // Only if moles dig at the stone and not at the clay, the stone covers the clay.
        BuriedHalves y = mine("m0,1;s2,0,1,0;c2,0,9,0;");
        fraction(y, 1, 3, 7, 10);
        fraction(y, 10, 5, 1, 4);
        fraction(y, 10, 2, 4, 25);
        fraction(y, 10, 10, 0, 1);
        fraction(y, 60, 3, 21, 100);
        fraction(mine("m0,1;s1,0,1,0;s1,0,1,0;s1,0,1,0;s1,0,1,0;s1,0,1,0;"), 60, 1, 59049, 100000);
        fraction(mine("m0,1;s0,0,1,0;"), 60, 9, 1, 1);
    }
}
