/** Promises 9 to 14: years, burying, telling, undoing, and what things and men are. */
public final class ActsTest {
    private static final int BAD = BuriedHalves.BAD;
    private static final int STATE = BuriedHalves.STATE;
    private static int wrong = 0;

    private static void due(String call, int got, int want) {
        if (got != want) {
            wrong++;
            System.out.println(call + " answered " + got + ", due is " + want);
        }
    }

    private static BuriedHalves mine(String text) {
        BuriedHalves x = new BuriedHalves();
        for (int i = 0; i < text.length(); i++) {
            x.feed(text.charAt(i));
        }
        x.mine();
        return x;
    }

    public static void main(String[] args) {
        noMine();
        rising();
        wood();
        clay();
        yearsAnswers();
        lastYear();
        burying();
        telling();
        undoing();
        forgetting();
        tooNear();
        knowing();
        System.exit(wrong == 0 ? 0 : 1);
    }

    private static void noMine() {
        BuriedHalves x = new BuriedHalves();
        due("years", x.years(1), STATE);
        due("state ahead of bad", x.years(0), STATE);
        due("bury", x.bury(0, 0, 1), BAD);
        due("tell", x.tell(0, 0, 1), BAD);
        due("undo", x.undo(), STATE);
        due("thing", x.thing(0, 0), BAD);
        due("knows", x.knows(0), BAD);
    }

    private static void depths(BuriedHalves x, int... wanted) {
        for (int t = 0; t < wanted.length; t++) {
            due("depth of " + t + " in year " + x.count(3), x.thing(t, 0), wanted[t]);
        }
    }

    private static void rises(BuriedHalves x, int... wanted) {
        for (int t = 0; t < wanted.length; t++) {
            due("rise of " + t + " in year " + x.count(3), x.thing(t, 5), wanted[t]);
        }
    }

    private static void rising() {
        BuriedHalves x = mine("m0,1;i5,0,2,0;w5,1,2,0;s5,2,1,0;g5,3,1,0;i2,3,3,0;");
        rises(x, 1, 2, 0, 0, 1);
        due("year 0", x.years(1), 0);
        depths(x, 4, 3, 5, 5, 1);
        rises(x, 0, 0, 0, 0, 0);
        x.years(1);
        depths(x, 4, 3, 5, 5, 1);
        rises(x, 1, 2, 0, 0, 0);
        x.years(1);
        depths(x, 3, 1, 5, 5, 1);
        rises(x, 0, 0, 0, 0, 1);
        due("the last one comes up", x.years(1), 16);
        depths(x, 3, 1, 5, 5, 0);
        rises(x, 1, 1, 0, 1, 0);
        due("the wooden one, too", x.years(1), 18);
        depths(x, 2, 0, 5, 4, 0);
        due("year 5", x.count(3), 5);
        x.years(4);
        rises(x, 0, 0, 0, 1, 0);
        x.years(1);
        depths(x, 0, 0, 5, 3, 0);
        rises(x, 0, 0, 0, 0, 0);
        due("up stays up", x.years(3), 19);
        due("up from the first", mine("m0,1;s0,0,1,0;s1,0,1,0;i0,0,1,0;").years(1), 5);
    }

    /** No thing rises by more than it is deep. */
    private static void wood() {
        rises(mine("m0,1;w1,0,1,0;w2,0,1,0;w3,0,1,0;w0,0,1,0;"), 1, 2, 2, 0);
        BuriedHalves y = mine("m0,1;w3,0,3,0;");
        rises(y, 2);
        y.bury(0, 0, 1);
        rises(y, 1);
        due("the last one deep", y.years(1), 1);
        rises(y, 0);
        y.undo();
        rises(y, 1);
        y.bury(0, 0, 2);
        rises(y, 2);
        y.years(1);
        y.bury(0, 0, 1);
        rises(y, 0);
    }

    private static void clay() {
        BuriedHalves x = mine("m0,1;c5,0,1,0;s4,0,1,0;");
        due("covered", x.thing(0, 5), 0);
        x.years(2);
        depths(x, 5, 4);
        x.bury(1, 0, 5);
        due("as deep is not less deep", x.thing(0, 5), 1);
        x.bury(1, 1, 4);
        due("next to it is not at it", x.thing(0, 5), 1);
        x.bury(1, 0, 6);
        due("deeper", x.thing(0, 5), 1);
        x.years(1);
        depths(x, 4, 6);

        BuriedHalves y = mine("m0,1;c5,0,1,0;i1,0,1,0;");
        due("covered ahead of the rising", y.years(1), 2);
        depths(y, 5, 0);
        due("what is up does not cover", y.thing(0, 5), 1);
        y.years(1);
        depths(y, 4, 0);

        BuriedHalves z = mine("m0,1;c6,0,2,0;c5,0,1,0;");
        z.years(1);
        depths(z, 6, 4);
        z.years(1);
        z.bury(1, 0, 7);
        depths(z, 6, 7);
        z.years(1);
        depths(z, 5, 7);
        z.years(1);
        depths(z, 5, 7);
        due("clay is as slow as iron", z.count(3), 4);
    }

    private static void yearsAnswers() {
        BuriedHalves x = mine("m0,1;i3,0,1,0;i2,0,1,0;");
        due("years 0", x.years(0), BAD);
        due("years -1", x.years(-1), BAD);
        due("years 25", x.years(25), BAD);
        due("no act", x.count(6), 0);
        due("two", x.years(2), 2);
        due("two acts", x.count(6), 2);
        due("24", x.years(24), 3);
        due("year", x.count(3), 26);
        due("24 acts", x.count(6), 24);
    }

    private static void lastYear() {
        BuriedHalves x = mine("m0,1;g40,0,1,0;");
        for (int k = 0; k < 41; k++) {
            x.years(24);
        }
        due("984", x.count(3), 984);
        due("beyond", x.years(16), BuriedHalves.FULL);
        due("still 984", x.count(3), 984);
        due("bad ahead of full", x.years(25), BAD);
        due("grave is up", x.years(15), 1);
        due("999", x.count(3), 999);
        due("no more", x.years(1), BuriedHalves.FULL);
        due("bad ahead of full", x.years(0), BAD);
        due("undo", x.undo(), 23);
        due("998", x.count(3), 998);
        due("one more", x.years(1), 1);
        due("foretold beyond", x.ahead(0, 60), 0);
    }

    private static void burying() {
        BuriedHalves x = mine("m0,1;s9,1,1,0;s0,2,1,0;");
        due("thing -1", x.bury(-1, 0, 1), BAD);
        due("thing 2", x.bury(2, 0, 1), BAD);
        due("place -1", x.bury(0, -1, 1), BAD);
        due("place 4", x.bury(0, 4, 1), BAD);
        due("depth 0", x.bury(0, 0, 0), BAD);
        due("depth 41", x.bury(0, 0, 41), BAD);
        due("nothing is dug", x.count(5), 0);
        due("no act", x.count(6), 0);
        due("bury", x.bury(0, 3, 40), 49);
        due("place", x.thing(0, 1), 3);
        due("depth", x.thing(0, 0), 40);
        due("one that is up", x.bury(1, 0, 1), 50);
        due("is up no more", x.up(0), 0);
        due("as it is", x.bury(1, 0, 1), 52);
        due("dug", x.count(5), 52);
        due("three acts", x.count(6), 3);
    }

    private static void telling() {
        BuriedHalves x = mine("m0,3;s9,1,1,5;s9,2,1,0;");
        due("thing -1", x.tell(-1, 0, 1), BAD);
        due("thing 2", x.tell(2, 0, 1), BAD);
        due("man -1", x.tell(0, -1, 1), BAD);
        due("man 3", x.tell(0, 3, 1), BAD);
        due("on -1", x.tell(0, 0, -1), BAD);
        due("on 2", x.tell(0, 0, 2), BAD);
        due("knows it", x.tell(0, 0, 1), STATE);
        due("knows it not", x.tell(0, 1, 0), STATE);
        due("no act", x.count(6), 0);
        due("learns", x.tell(0, 1, 1), 7);
        due("forgets", x.tell(0, 2, 0), 3);
        due("of the other", x.tell(1, 2, 1), 4);
        due("who knows", x.thing(0, 3), 3);
        due("three acts", x.count(6), 3);
    }

    private static void undoing() {
        BuriedHalves x = mine("m0,3;w1,1,1,5;s9,2,1,0;");
        due("none", x.undo(), STATE);
        x.years(2);
        x.bury(0, 3, 7);
        x.tell(0, 1, 1);
        x.tell(1, 2, 1);
        x.tell(1, 2, 0);
        x.bury(1, 2, 9);
        due("seven acts", x.count(6), 7);
        due("dug", x.count(5), 25);
        due("undo bury", x.undo(), 6);
        due("dug less", x.count(5), 7);
        due("undo forget", x.undo(), 5);
        due("knows again", x.thing(1, 3), 4);
        due("undo learn", x.undo(), 4);
        due("knows not", x.thing(1, 3), 0);
        due("undo", x.undo(), 3);
        due("as told", x.thing(0, 3), 5);
        due("undo bury", x.undo(), 2);
        due("place again", x.thing(0, 1), 1);
        due("depth again", x.thing(0, 0), 0);
        due("nothing dug", x.count(5), 0);
        due("undo a year", x.undo(), 1);
        due("still up", x.thing(0, 0), 0);
        due("year 1", x.count(3), 1);
        due("undo a year", x.undo(), 0);
        due("not up", x.thing(0, 0), 1);
        due("year 0", x.count(3), 0);
        due("none again", x.undo(), STATE);
    }

    private static void forgetting() {
        BuriedHalves x = mine("m0,1;s1,0,1,0;");
        for (int depth = 2; depth <= 31; depth++) {
            x.bury(0, 0, depth);
        }
        due("24 kept", x.count(6), 24);
        for (int left = 23; left >= 0; left--) {
            due("undo", x.undo(), left);
            due("depth", x.thing(0, 0), 7 + left);
        }
        due("older ones are forgotten", x.undo(), STATE);
        due("depth stays", x.thing(0, 0), 7);
        for (int k = 0; k < 30; k++) {
            x.years(1);
        }
        due("24 years", x.count(6), 24);
        for (int left = 23; left >= 0; left--) {
            due("undo a year", x.undo(), left);
        }
        due("year 6", x.count(3), 6);
    }

    private static void tooNear() {
        BuriedHalves x = mine("m2,1;s10,1,1,0;s12,1,1,0;s8,2,1,0;s13,0,1,0;s10,3,1,0;");
        due("of 0", x.thing(0, 4), 6);
        due("of 1", x.thing(1, 4), 9);
        due("of 2", x.thing(2, 4), 17);
        due("of 3", x.thing(3, 4), 2);
        due("of 4", x.thing(4, 4), 4);
        due("what 6", x.thing(0, 6), BAD);
        due("what -1", x.thing(0, -1), BAD);
        due("thing 5", x.thing(5, 0), BAD);
        due("thing -1", x.thing(-1, 0), BAD);
        BuriedHalves up = mine("m9,1;s0,1,1,0;s1,1,1,0;s1,2,1,0;");
        due("up is near none", up.thing(0, 4), 0);
        due("none is near up", up.thing(1, 4), 4);
        BuriedHalves none = mine("m0,1;s3,1,1,0;s3,2,1,0;s4,1,1,0;");
        due("near 0", none.thing(0, 4), 2);
    }

    private static void knowing() {
        BuriedHalves x = mine("m0,3;s1,0,1,5;s1,1,1,0;s2,2,1,4;");
        due("0", x.knows(0), 1);
        due("1", x.knows(1), 0);
        due("2", x.knows(2), 5);
        due("3", x.knows(3), BAD);
        due("-1", x.knows(-1), BAD);
        x.tell(1, 1, 1);
        due("learned", x.knows(1), 2);
    }
}
