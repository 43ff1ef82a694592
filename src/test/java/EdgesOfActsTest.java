/**
 * The sentences of the document that name a boundary case, one test each: part 2 of the terms, promises 9 to 14,
 * 26, 27 and 32. The sentence stands ahead of its test.
 */
public final class EdgesOfActsTest {
    private static final int BAD = BuriedHalves.BAD;
    private static final int STATE = BuriedHalves.STATE;
    private static final int FULL = BuriedHalves.FULL;
    private static final int LEAST = Integer.MIN_VALUE;
    private static final int MOST = Integer.MAX_VALUE;
    private static int wrong = 0;

    private static void due(String call, int got, int want) {
        if (got != want) {
            wrong++;
            System.out.println(call + " answered " + got + ", due is " + want);
        }
    }

    private static int read(BuriedHalves x, String text) {
        for (int i = 0; i < text.length(); i++) {
            x.feed(text.charAt(i));
        }
        return x.mine();
    }

    private static BuriedHalves mine(String text) {
        BuriedHalves x = new BuriedHalves();
        read(x, text);
        return x;
    }

    private static void depths(String when, BuriedHalves x, int... wanted) {
        for (int t = 0; t < wanted.length; t++) {
            due("depth of " + t + ", " + when, x.thing(t, 0), wanted[t]);
        }
    }

    private static void rises(String when, BuriedHalves x, int... wanted) {
        for (int t = 0; t < wanted.length; t++) {
            due("rise of " + t + ", " + when, x.thing(t, 5), wanted[t]);
        }
    }

    public static void main(String[] args) {
        slowOfIron();
        slowOfClayAndWood();
        upStaysUp();
        woodAtLeastNone();
        stoneNever();
        graveInYears();
        clayUnderAnother();
        clayAheadOfTheRising();
        clayIsNotItsOwnCover();
        nearInDepth();
        nearInPlace();
        upIsNotNear();
        nearToItself();
        actsAtMost();
        oldestIsForgotten();
        actsByWhichNothingBecomesAnother();
        eachKindUndone();
        latestFirst();
        refusedIsNoAct();
        yearsBounds();
        yearsFull();
        buryBounds();
        buryDug();
        tellBounds();
        tellWhatIsSo();
        undoNone();
        thingBounds();
        knowsBounds();
        imageBounds();
        restoreBounds();
        imageKeepsAll();
        countBounds();
        System.exit(wrong == 0 ? 0 : 1);
    }

    // ---- rising

    /** "an iron one by 1, if YEAR (ahead of it; 0, too) by SLOW leaves 0". */
    private static void slowOfIron() {
        for (int slow = 1; slow <= 9; slow++) {
            BuriedHalves x = mine("m0,1;i40,0," + slow + ",0;");
            int depth = 40;
            for (int year = 0; year < 28; year++) {
                int rise = year % slow == 0 ? 1 : 0;
                due("year", x.count(3), year);
                rises("slow " + slow + ", year " + year, x, rise);
                due("years(1)", x.years(1), 0);
                depth -= rise;
                depths("slow " + slow + ", behind year " + year, x, depth);
            }
        }
    }

    /** "a clay one so ...; a wooden one by twice what an iron one would": none covers the other. */
    private static void slowOfClayAndWood() {
        for (int slow = 1; slow <= 9; slow++) {
            BuriedHalves x = mine("m0,1;c40,0," + slow + ",0;w40,1," + slow + ",0;");
            int clay = 40;
            int wood = 40;
            for (int year = 0; year < 19; year++) {
                int rise = year % slow == 0 ? 1 : 0;
                rises("slow " + slow + ", year " + year, x, rise, 2 * rise);
                x.years(1);
                clay -= rise;
                wood -= 2 * rise;
                depths("slow " + slow + ", behind year " + year, x, clay, wood);
            }
        }
    }

    /** "at 0 it is UP, and stays so"; "(0 of one that is UP)". */
    private static void upStaysUp() {
        BuriedHalves x = mine("m0,1;i0,0,1,0;c0,1,1,0;w0,2,1,0;s0,3,1,0;g0,3,1,0;");
        for (int year = 0; year < 11; year++) {
            rises("up, year " + year, x, 0, 0, 0, 0, 0);
            due("all are up", x.years(1), 31);
            depths("up", x, 0, 0, 0, 0, 0);
        }
        BuriedHalves y = mine("m0,1;i1,0,1,0;c1,1,1,0;w1,2,1,0;s1,3,1,0;g1,3,1,0;");
        due("at 0", y.years(1), 7);
        due("the grave, too", y.years(4), 23);
        depths("come up", y, 0, 0, 0, 1, 0);
        due("they stay so", y.years(24), 23);
        depths("later", y, 0, 0, 0, 1, 0);
    }

    /** "(0 at least)": a wooden one 3, 2, 1 and 0 deep. */
    private static void woodAtLeastNone() {
        int[] rise = {0, 1, 2, 2};
        int[] then = {0, 0, 0, 1};
        for (int depth = 0; depth <= 3; depth++) {
            BuriedHalves x = mine("m0,1;w" + depth + ",0,1,0;");
            rises("wood " + depth + " deep", x, rise[depth]);
            due("ahead", x.ahead(0, 1), then[depth]);
            due("up behind a year", x.years(1), then[depth] == 0 ? 1 : 0);
            depths("wood that was " + depth + " deep", x, then[depth]);
        }
    }

    /** "a stone never". */
    private static void stoneNever() {
        BuriedHalves x = mine("m0,1;s1,0,1,0;s40,0,9,0;");
        for (int k = 0; k < 41; k++) {
            rises("stones", x, 0, 0);
            due("years", x.years(24), 0);
        }
        x.years(15);
        depths("year 999", x, 1, 40);
    }

    /** "a grave by 1 in YEARS (likewise) that leave 4 by 5", whatever its SLOW is. */
    private static void graveInYears() {
        BuriedHalves x = mine("m0,1;g40,0,1,0;g40,0,5,0;g40,0,9,0;");
        int depth = 40;
        for (int year = 0; year < 26; year++) {
            int rise = year % 5 == 4 ? 1 : 0;
            rises("graves, year " + year, x, rise, rise, rise);
            x.years(1);
            depth -= rise;
            depths("graves behind year " + year, x, depth, depth, depth);
        }
    }

    /** "but nothing, if another thing that is not UP lies at its PLACE less deep than it". */
    private static void clayUnderAnother() {
        for (char sort : "icwsg".toCharArray()) {
            rises("9 above 10, " + sort, mine("m0,1;c10,2,1,0;" + sort + "9,2,1,0;"), 0);
            rises("1 above 10, " + sort, mine("m0,1;c10,2,1,0;" + sort + "1,2,1,0;"), 0);
            rises("as deep, " + sort, mine("m0,1;c10,2,1,0;" + sort + "10,2,1,0;"), 1);
            rises("deeper, " + sort, mine("m0,1;c10,2,1,0;" + sort + "11,2,1,0;"), 1);
            rises("up, " + sort, mine("m0,1;c10,2,1,0;" + sort + "0,2,1,0;"), 1);
            rises("one place less, " + sort, mine("m0,1;c10,2,1,0;" + sort + "9,1,1,0;"), 1);
            rises("one place more, " + sort, mine("m0,1;c10,2,1,0;" + sort + "9,3,1,0;"), 1);
        }
        // Any one of the others is enough, ahead of it or behind it in number.
        rises("the last covers", mine("m0,1;c10,2,1,0;s11,2,1,0;s0,2,1,0;s9,1,1,0;s9,2,1,0;"), 0);
        due("the first covers", mine("m0,1;s9,2,1,0;s0,2,1,0;s9,1,1,0;s11,2,1,0;c10,2,1,0;").thing(4, 5), 0);
        due("none covers", mine("m0,1;s10,2,1,0;s0,2,1,0;s9,1,1,0;s11,2,1,0;c10,2,1,0;").thing(4, 5), 1);
        rises("under clay", mine("m0,1;c2,2,1,0;c3,2,1,0;c1,2,1,0;"), 0, 0, 1);
    }

    /** "(ahead of the rising of all)": whichever of both has the lesser number. */
    private static void clayAheadOfTheRising() {
        BuriedHalves t = mine("m0,1;c40,0,2,0;w40,0,2,0;");
        t.years(1);
        depths("as deep ahead of it", t, 39, 38);
        t.years(24);
        depths("under the wooden one from then on", t, 39, 14);
        BuriedHalves x = mine("m0,1;i5,0,1,0;c5,0,1,0;");
        x.years(1);
        depths("both as deep", x, 4, 4);
        BuriedHalves y = mine("m0,1;c5,0,1,0;w6,0,1,0;");
        y.years(1);
        depths("passed in this year", y, 4, 4);
        BuriedHalves z = mine("m0,1;w6,0,1,0;c5,0,1,0;");
        z.years(1);
        depths("passed in this year, the other way round", z, 4, 4);
        BuriedHalves u = mine("m0,1;i1,0,1,0;c5,0,1,0;");
        due("the cover comes up", u.years(1), 1);
        depths("covered in that year yet", u, 0, 5);
        u.years(1);
        depths("covered no more", u, 0, 4);
        BuriedHalves v = mine("m0,1;c5,0,1,0;c4,0,1,0;c3,0,1,0;");
        v.years(1);
        depths("each under the next", v, 5, 4, 2);
        BuriedHalves w = mine("m0,1;c3,0,1,0;c4,0,1,0;c5,0,1,0;");
        w.years(1);
        depths("each under the one before", w, 2, 4, 5);
    }

    /** "another thing": one alone is never covered. */
    private static void clayIsNotItsOwnCover() {
        BuriedHalves x = mine("m9,1;c2,0,1,0;");
        rises("alone", x, 1);
        due("it comes up", x.years(2), 1);
    }

    // ---- too near

    /** "their DEPTHS are no more than NEAR apart". */
    private static void nearInDepth() {
        for (int near = 0; near <= 9; near++) {
            BuriedHalves x = mine("m" + near + ",1;s20,1,1,0;s" + (20 + near) + ",1,1,0;s" + (21 + near) + ",1,1,0;s"
                    + (20 - near) + ",1,1,0;s" + (19 - near) + ",1,1,0;");
            due("near " + near, x.thing(0, 4), 2 | 8);
            due("near " + near + ", from the deeper one", x.thing(1, 4) & 1, 1);
            due("near " + near + ", from the less deep one", x.thing(3, 4) & 1, 1);
            due("near " + near + ", one more", (x.thing(2, 4) | x.thing(4, 4)) & 1, 0);
        }
    }

    /** "their PLACES are alike or next to each other (1 apart)": 0 and 3 are not. */
    private static void nearInPlace() {
        for (int a = 0; a < 4; a++) {
            for (int b = 0; b < 4; b++) {
                BuriedHalves x = mine("m0,1;s7," + a + ",1,0;s7," + b + ",1,0;");
                boolean near = a - b <= 1 && b - a <= 1;
                due(a + " and " + b, x.thing(0, 4), near ? 2 : 0);
                due(b + " and " + a, x.thing(1, 4), near ? 1 : 0);
                due("trouble of " + a + " and " + b, x.trouble(0), near ? 0 : BuriedHalves.NONE);
            }
        }
    }

    /** "if neither is UP". */
    private static void upIsNotNear() {
        BuriedHalves x = mine("m9,1;s0,1,1,0;s0,1,1,0;s1,1,1,0;s1,1,1,0;");
        due("up and all", x.thing(0, 4), 0);
        due("both up", x.thing(1, 4), 0);
        due("not up", x.thing(2, 4), 8);
        due("not up", x.thing(3, 4), 4);
    }

    /** "Two things": none is too near itself. */
    private static void nearToItself() {
        due("alone", mine("m9,1;s5,1,1,0;").thing(0, 4), 0);
        BuriedHalves x = mine("m9,1;s5,1,1,0;s5,1,1,0;s5,1,1,0;s5,1,1,0;s5,1,1,0;");
        for (int t = 0; t < 5; t++) {
            due("of five, " + t, x.thing(t, 4), 31 & ~(1 << t));
        }
    }

    // ---- acts

    /** "24 at most are kept": 23, 24, 25 of each kind of act. */
    private static void actsAtMost() {
        BuriedHalves x = mine("m0,1;s1,0,1,0;");
        BuriedHalves y = mine("m0,1;s1,0,1,0;");
        BuriedHalves z = mine("m0,1;s1,0,1,0;");
        for (int k = 1; k <= 60; k++) {
            x.years(1);
            y.bury(0, k % 4, 1 + k % 40);
            z.tell(0, 0, k % 2);
            int kept = k < 24 ? k : 24;
            due(k + " years", x.count(6), kept);
            due(k + " burials", y.count(6), kept);
            due(k + " told", z.count(6), kept);
        }
        BuriedHalves u = mine("m0,1;s1,0,1,0;");
        u.years(24);
        due("24 at once", u.count(6), 24);
        u.years(1);
        due("one more", u.count(6), 24);
    }

    /** "of more the oldest is forgotten": what is left behind all undoing. */
    private static void oldestIsForgotten() {
        for (int acts = 23; acts <= 50; acts++) {
            BuriedHalves x = mine("m0,1;s1,0,1,0;");
            for (int k = 1; k <= acts; k++) {
                x.bury(0, k % 4, 1 + k % 40);
            }
            int kept = acts < 24 ? acts : 24;
            for (int left = kept - 1; left >= 0; left--) {
                due("undo of " + acts, x.undo(), left);
                int back = acts - kept + left;
                depths("back to act " + back + " of " + acts, x, 1 + back % 40);
                due("place behind act " + back + " of " + acts, x.thing(0, 1), back % 4);
            }
            due("none left of " + acts, x.undo(), STATE);
            depths("as it was", x, 1 + (acts - kept) % 40);
        }
    }

    /** "also such by which nothing becomes another". */
    private static void actsByWhichNothingBecomesAnother() {
        BuriedHalves x = mine("m0,1;s7,2,1,0;");
        x.years(1);
        due("a year of stones", x.count(6), 1);
        due("buried as it lies", x.bury(0, 2, 7), 14);
        due("and again", x.bury(0, 2, 7), 28);
        due("three acts", x.count(6), 3);
        due("undo", x.undo(), 2);
        due("dug", x.count(5), 14);
        due("undo", x.undo(), 1);
        due("dug", x.count(5), 0);
        due("undo", x.undo(), 0);
        due("year", x.count(3), 0);
        BuriedHalves y = mine("m0,1;");
        due("years of nothing", y.years(5), 0);
        due("acts", y.count(6), 5);
        due("undo", y.undo(), 4);
        due("year", y.count(3), 4);
    }

    /** "each can be undone": all of what it changed. */
    private static void eachKindUndone() {
        BuriedHalves x = mine("m0,6;i9,1,1,21;c1,1,1,0;w1,2,1,0;s0,3,1,63;g1,0,1,1;");
        x.years(4);
        due("a year", x.years(1), 30);
        due("undo", x.undo(), 4);
        due("year", x.count(3), 4);
        due("the grave is not up", x.up(0), 14);
        depths("year undone", x, 5, 0, 0, 0, 1);
        due("bury", x.bury(3, 0, 40), 40);
        due("undo", x.undo(), 4);
        depths("burial undone", x, 5, 0, 0, 0, 1);
        due("its place", x.thing(3, 1), 3);
        due("up again", x.up(0), 14);
        due("dug", x.count(5), 0);
        due("learns", x.tell(1, 5, 1), 32);
        due("undo", x.undo(), 4);
        due("learned undone", x.thing(1, 3), 0);
        due("forgets", x.tell(3, 0, 0), 62);
        due("undo", x.undo(), 4);
        due("forgotten undone", x.thing(3, 3), 63);
        due("of the first", x.tell(0, 4, 0), 5);
        due("undo", x.undo(), 4);
        due("of the first", x.thing(0, 3), 21);
    }

    /** "the latest first". */
    private static void latestFirst() {
        BuriedHalves x = mine("m0,2;s7,2,1,0;");
        x.bury(0, 1, 8);
        x.tell(0, 1, 1);
        x.years(1);
        x.tell(0, 1, 0);
        due("the latest", x.undo(), 3);
        due("known again", x.thing(0, 3), 2);
        due("the year yet", x.count(3), 1);
        due("the year", x.undo(), 2);
        due("no year", x.count(3), 0);
        due("known yet", x.thing(0, 3), 2);
        due("learned", x.undo(), 1);
        due("known no more", x.thing(0, 3), 0);
        due("as deep yet", x.thing(0, 0), 8);
        due("buried", x.undo(), 0);
        due("as deep as told", x.thing(0, 0), 7);
        due("undone acts make room", x.years(24), 0);
        due("for 24", x.count(6), 24);
    }

    /** What is refused is no act. */
    private static void refusedIsNoAct() {
        BuriedHalves x = mine("m0,2;s7,2,1,1;");
        x.years(0);
        x.years(25);
        x.bury(0, 0, 0);
        x.bury(1, 0, 1);
        x.tell(0, 0, 1);
        x.tell(0, 2, 1);
        due("no act", x.count(6), 0);
        due("none to undo", x.undo(), STATE);
    }

    /** years: "n YEARS (1 to 24)", "BAD; STATE: no MINE (ahead of BAD)". */
    private static void yearsBounds() {
        int[] none = {0, -1, 25, LEAST, MOST};
        BuriedHalves x = new BuriedHalves();
        for (int n : none) {
            due("years(" + n + ") without a mine", x.years(n), STATE);
        }
        due("years(1) without a mine", x.years(1), STATE);
        read(x, "m0,1;i1,0,1,0;i2,0,1,0;");
        for (int n : none) {
            due("years(" + n + ")", x.years(n), BAD);
        }
        due("no year passed", x.count(3), 0);
        due("years(1)", x.years(1), 1);
        due("an act each", x.count(6), 1);
        due("years(24)", x.years(24), 3);
        due("year", x.count(3), 25);
        due("acts", x.count(6), 24);
    }

    /** years: "FULL: beyond YEAR 999". */
    private static void yearsFull() {
        BuriedHalves x = mine("m0,1;s1,0,1,0;");
        for (int k = 0; k < 40; k++) {
            x.years(24);
        }
        x.years(15);
        due("year", x.count(3), 975);
        due("24 to 999", x.years(24), 0);
        due("year", x.count(3), 999);
        for (int n = 1; n <= 24; n++) {
            due("years(" + n + ") in year 999", x.years(n), FULL);
        }
        for (int back = 1; back < 24; back++) {
            x.undo();
            due("one too many, " + back + " back", x.years(back + 1), FULL);
            due("year stays", x.count(3), 999 - back);
            due("acts stay", x.count(6), 24 - back);
        }
        due("23 to 999", x.years(23), 0);
        due("year", x.count(3), 999);
    }

    /** bury: "at a PLACE", "(DEPTH 1 to 40)", "BAD". */
    private static void buryBounds() {
        BuriedHalves x = mine("m0,1;s1,0,1,0;s1,0,1,0;");
        int[] noThing = {-1, 2, 5, LEAST, MOST};
        int[] noPlace = {-1, 4, LEAST, MOST};
        int[] noDepth = {0, -1, 41, LEAST, MOST};
        for (int t : noThing) {
            due("bury(" + t + ", 0, 1)", x.bury(t, 0, 1), BAD);
        }
        for (int p : noPlace) {
            due("bury(0, " + p + ", 1)", x.bury(0, p, 1), BAD);
        }
        for (int d : noDepth) {
            due("bury(0, 0, " + d + ")", x.bury(0, 0, d), BAD);
        }
        due("nothing dug", x.count(5), 0);
        due("no act", x.count(6), 0);
        due("40 deep at 3", x.bury(1, 3, 40), 41);
        due("depth", x.thing(1, 0), 40);
        due("place", x.thing(1, 1), 3);
        due("1 deep at 0", x.bury(1, 0, 1), 82);
        due("depth", x.thing(1, 0), 1);
        due("place", x.thing(1, 1), 0);
        due("without a mine", new BuriedHalves().bury(0, 0, 1), BAD);
        due("of none", mine("m0,1;").bury(0, 0, 1), BAD);
    }

    /** "(UP or not)", "(DUG is what it was deep, and what it is then, more)": "DUG (in all)". */
    private static void buryDug() {
        BuriedHalves x = mine("m0,1;i0,0,1,0;w3,1,1,0;");
        due("one that is up", x.bury(0, 2, 5), 5);
        due("is up no more", x.up(0), 0);
        x.years(2);
        depths("two years", x, 3, 0);
        due("as deep as it is now", x.bury(0, 2, 1), 5 + 3 + 1);
        due("the other one, up now", x.bury(1, 1, 40), 9 + 40);
        due("in all", x.count(5), 49);
        x.years(1);
        due("years dig nothing", x.count(5), 49);
        x.tell(0, 0, 1);
        due("nor does telling", x.count(5), 49);
    }

    /** tell: "on (1), (0)", MEN there are, "BAD". */
    private static void tellBounds() {
        BuriedHalves x = mine("m0,6;s1,0,1,0;s1,0,1,63;");
        int[] noThing = {-1, 2, LEAST, MOST};
        int[] noMan = {-1, 6, 32, LEAST, MOST};
        int[] notOn = {-1, 2, LEAST, MOST};
        for (int t : noThing) {
            due("tell(" + t + ", 0, 1)", x.tell(t, 0, 1), BAD);
        }
        for (int m : noMan) {
            due("tell(0, " + m + ", 1)", x.tell(0, m, 1), BAD);
            due("tell(1, " + m + ", 0)", x.tell(1, m, 0), BAD);
        }
        for (int on : notOn) {
            due("tell(0, 0, " + on + ")", x.tell(0, 0, on), BAD);
            due("tell(1, 0, " + on + ")", x.tell(1, 0, on), BAD);
        }
        due("no act", x.count(6), 0);
        due("the first man", x.tell(0, 0, 1), 1);
        due("the last man", x.tell(0, 5, 1), 33);
        due("the first man forgets", x.tell(1, 0, 0), 62);
        due("the last man forgets", x.tell(1, 5, 0), 30);
        due("one man alone", mine("m0,1;s1,0,1,0;").tell(0, 1, 1), BAD);
        due("without a mine", new BuriedHalves().tell(0, 0, 1), BAD);
    }

    /** tell: "STATE: it is so." */
    private static void tellWhatIsSo() {
        BuriedHalves x = mine("m0,6;s1,0,1,21;");
        for (int man = 0; man < 6; man++) {
            int on = (21 >> man) & 1;
            due("man " + man + " as it is", x.tell(0, man, on), STATE);
            due("known", x.thing(0, 3), 21);
        }
        due("no act", x.count(6), 0);
        due("learns", x.tell(0, 1, 1), 23);
        due("learns again", x.tell(0, 1, 1), STATE);
        due("forgets", x.tell(0, 1, 0), 21);
        due("forgets again", x.tell(0, 1, 0), STATE);
        due("two acts", x.count(6), 2);
    }

    /** undo: "how many can be undone yet. STATE: none." */
    private static void undoNone() {
        BuriedHalves x = new BuriedHalves();
        due("without a mine", x.undo(), STATE);
        read(x, "m0,1;s1,0,1,0;");
        due("read", x.undo(), STATE);
        x.years(2);
        due("one yet", x.undo(), 1);
        due("none yet", x.undo(), 0);
        due("none", x.undo(), STATE);
        x.image(0);
        x.years(3);
        x.restore(0);
        due("restored", x.undo(), STATE);
        x.years(3);
        read(x, "m0,1;");
        due("read anew", x.undo(), STATE);
        due("a fault", read(x, "m"), -1000101);
        due("none", x.undo(), STATE);
    }

    /** thing: "BAD". */
    private static void thingBounds() {
        BuriedHalves x = mine("m0,6;s40,3,9,63;g0,0,1,0;");
        int[] noThing = {-1, 2, 4, 5, LEAST, MOST};
        int[] noWhat = {-1, 6, LEAST, MOST};
        for (int t : noThing) {
            for (int what = 0; what < 6; what++) {
                due("thing(" + t + ", " + what + ")", x.thing(t, what), BAD);
            }
        }
        for (int what : noWhat) {
            due("thing(0, " + what + ")", x.thing(0, what), BAD);
        }
        int[] most = {40, 3, 9, 63, 0, 0};
        int[] least = {0, 0, 1, 0, 0, 0};
        for (int what = 0; what < 6; what++) {
            due("the most, " + what, x.thing(0, what), most[what]);
            due("the least, " + what, x.thing(1, what), least[what]);
        }
    }

    /** knows: "BAD". */
    private static void knowsBounds() {
        for (int men = 1; men <= 6; men++) {
            int all = (1 << men) - 1;
            BuriedHalves x = mine("m0," + men + ";s0,0,1," + all + ";s1,0,1,0;s1,0,1,1;s1,0,1,0;s1,0,1," + all + ";");
            due("man 0", x.knows(0), 1 | 4 | 16);
            due("the last man", x.knows(men - 1), men == 1 ? 1 | 4 | 16 : 1 | 16);
            due("man behind the last", x.knows(men), BAD);
            due("man -1", x.knows(-1), BAD);
            due("least", x.knows(LEAST), BAD);
            due("most", x.knows(MOST), BAD);
        }
        due("without a mine", new BuriedHalves().knows(0), BAD);
        due("of no thing", mine("m0,1;").knows(0), 0);
    }

    // ---- images

    /** image: "An IMAGE (0, 1)", "BAD; STATE: no MINE." */
    private static void imageBounds() {
        BuriedHalves x = new BuriedHalves();
        due("image(0)", x.image(0), STATE);
        due("image(1)", x.image(1), STATE);
        due("nothing was kept", x.restore(0), STATE);
        read(x, "m0,1;");
        int[] none = {-1, 2, LEAST, MOST};
        for (int k : none) {
            due("image(" + k + ")", x.image(k), BAD);
            due("restore(" + k + ")", x.restore(k), BAD);
        }
        due("image(1) of no thing", x.image(1), 1);
        due("image 0 was not kept", x.restore(0), STATE);
        due("image 1 was", x.restore(1), 1);
    }

    /** restore: "no ACT can be undone then", "STATE: none was kept": of this one. */
    private static void restoreBounds() {
        BuriedHalves x = mine("m0,1;s1,0,1,0;");
        x.years(1);
        due("none kept", x.restore(0), STATE);
        due("the act stays", x.count(6), 1);
        x.image(0);
        due("the act stays", x.count(6), 1);
        due("kept, but not 1", x.restore(1), STATE);
        due("the act stays", x.count(6), 1);
        due("restored", x.restore(0), 1);
        due("no act", x.count(6), 0);
        due("again", x.restore(0), 1);
        BuriedHalves y = new BuriedHalves();
        due("without a mine", y.restore(1), STATE);
    }

    /** "The MINE is as an IMAGE kept it": whatever came then, and the other image. */
    private static void imageKeepsAll() {
        BuriedHalves x = mine("m7,5;i4,1,2,21;w9,3,9,0;");
        x.years(3);
        x.bury(0, 2, 30);
        x.tell(1, 4, 1);
        x.image(0);
        x.undo();
        x.undo();
        x.years(1);
        x.image(1);
        read(x, "m1,1;g1,1,1,1;s2,2,2,0;c3,3,3,1;");
        x.bury(2, 0, 9);
        due("restored", x.restore(0), 1);
        int[] counts = {0, 2, 5, 3, 7, 32, 0, 0};
        for (int what = 0; what < 8; what++) {
            due("count(" + what + ")", x.count(what), counts[what]);
        }
        int[][] things = {{30, 2, 2, 21}, {7, 3, 9, 16}};
        for (int t = 0; t < 2; t++) {
            for (int what = 0; what < 4; what++) {
                due("thing(" + t + ", " + what + ")", x.thing(t, what), things[t][what]);
            }
        }
        due("kinds", 10 * x.kind(0) + x.kind(1), 13);
        x.bury(0, 0, 1);
        x.tell(0, 0, 0);
        x.years(9);
        due("as it was kept, not as it became", x.restore(0), 1);
        due("depth", x.thing(0, 0), 30);
        due("known", x.thing(0, 3), 21);
        due("year", x.count(3), 3);
        due("the other one", x.restore(1), 1);
        due("depth", x.thing(0, 0), 2);
        due("year", x.count(3), 4);
        due("dug", x.count(5), 0);
        x.image(0);
        due("in place of the first", x.restore(0), 1);
        due("year", x.count(3), 4);
    }

    // ---- counts

    /** count: 0 to 7, "BAD". */
    private static void countBounds() {
        BuriedHalves x = new BuriedHalves();
        int[] none = {-1, 8, LEAST, MOST};
        for (int what : none) {
            due("count(" + what + ")", x.count(what), BAD);
        }
        for (int row = 0; row < 8; row++) {
            x.row(row, 0, 0);
        }
        read(x, "m9,6;" + "s40,3,9,63;".repeat(5));
        for (int k = 0; k < 5; k++) {
            x.bury(k, 0, 40);
        }
        x.years(24);
        for (int k = 0; k < 100; k++) {
            x.feed(0);
        }
        int[] most = {8, 5, 6, 24, 9, 400, 24, 100};
        for (int what = 0; what < 8; what++) {
            due("count(" + what + ")", x.count(what), most[what]);
        }
    }
}
