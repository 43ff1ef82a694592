/** Promises 6 to 8: the tape, mines that are read from it, and faults. */
public final class TextTest {
    private static final String FIVE = "m3,4;i9,0,2,3;c12,0,3,4;w20,2,4,9;s11,1,1,8;g6,3,9,0;";
    private static int wrong = 0;

    private static void due(String call, int got, int want) {
        if (got != want) {
            wrong++;
            System.out.println(call + " answered " + got + ", due is " + want);
        }
    }

    private static int read(BuriedHalves x, String text) {
        for (int i = 0; i < text.length(); i++) {
            x.feed(text.charAt(i));
        }
        return x.mine();
    }

    /** A text on a new object that already had a mine of one thing: its fault, and that all else stays. */
    private static void faulty(String text, int place, int number) {
        BuriedHalves x = new BuriedHalves();
        read(x, "m9,2;s7,1,5,2;");
        x.bury(0, 2, 8);
        due("'" + text + "'", read(x, text), -1000100 - place);
        due("fault of '" + text + "'", x.fault(), number);
        int[] counts = {0, 1, 2, 0, 9, 15, 1, 0};
        for (int what = 0; what < 8; what++) {
            due("count " + what + " behind '" + text + "'", x.count(what), counts[what]);
        }
        due("depth behind '" + text + "'", x.thing(0, 0), 8);
        due("place behind '" + text + "'", x.thing(0, 1), 2);
    }

    private static void fine(String text, int things) {
        BuriedHalves x = new BuriedHalves();
        due("'" + text + "'", read(x, text), things);
        due("no fault in '" + text + "'", x.fault(), 0);
        due("things of '" + text + "'", x.count(1), things);
        due("tape behind '" + text + "'", x.count(7), 0);
    }

    public static void main(String[] args) {
        feeding();
        fineTexts();
        lawFaults();
        thingFaults();
        standsInPlace();
        latestFault();
        System.exit(wrong == 0 ? 0 : 1);
    }

    private static void feeding() {
        BuriedHalves x = new BuriedHalves();
        due("feed -1", x.feed(-1), BuriedHalves.BAD);
        due("feed 256", x.feed(256), BuriedHalves.BAD);
        due("nothing came", x.count(7), 0);
        due("feed 0", x.feed(0), 1);
        due("feed 255", x.feed(255), 2);
        for (int i = 3; i <= 100; i++) {
            due("feed", x.feed('m'), i);
        }
        due("full", x.feed('m'), BuriedHalves.FULL);
        due("bad ahead of full", x.feed(256), BuriedHalves.BAD);
        due("100 bytes", x.count(7), 100);
        due("read", x.mine(), -1000100);
        due("feed anew", x.feed('m'), 1);

        BuriedHalves y = new BuriedHalves();
        // No longer text is a mine but by a 0 ahead of NEAR and of MEN: the tape has room for each.
        due("longest things", read(y, "m9,6;" + "i40,03,09,63;".repeat(5)), 5);
        due("its known", y.thing(4, 3), 63);
    }

    private static void fineTexts() {
        fine("m0,1;", 0);
        fine("m9,6;", 0);
        fine("m00,01;i00,00,01,00;", 1);
        fine("m3,4;i0,0,1,0;", 1);
        fine("m3,4;g40,3,9,15;", 1);
        fine("m3,6;g40,3,9,63;", 1);
        fine("m3,1;g40,3,9,1;", 1);
        fine(FIVE, 5);
        BuriedHalves x = new BuriedHalves();
        read(x, FIVE);
        int[][] all = {{9, 0, 2, 3, 1}, {12, 0, 3, 4, 2}, {20, 2, 4, 9, 3}, {11, 1, 1, 8, 4}, {6, 3, 9, 0, 5}};
        for (int t = 0; t < 5; t++) {
            for (int what = 0; what < 4; what++) {
                due("thing " + t + " " + what, x.thing(t, what), all[t][what]);
            }
            due("kind " + t, x.kind(t), all[t][4]);
        }
        due("men", x.count(2), 4);
        due("near", x.count(4), 3);
    }

    private static void lawFaults() {
        faulty("", 0, 1);
        faulty("m", 1, 1);
        faulty("m3", 2, 1);
        faulty("m3,", 3, 1);
        faulty("m3,4", 4, 1);
        faulty("i1,0,1,0;", 0, 1);
        faulty("M3,4;", 0, 1);
        faulty(" m3,4;", 0, 1);
        faulty("m 3,4;", 1, 1);
        faulty("mm3,4;", 1, 1);
        faulty("m,4;", 1, 1);
        faulty("m-1,4;", 1, 1);
        faulty("m10,4;", 1, 2);
        faulty("m99;", 1, 2);
        faulty("m100,4;", 1, 1);
        faulty("m000,4;", 1, 1);
        faulty("m3;4;", 2, 1);
        faulty("m3:4;", 2, 1);
        faulty("m3/4;", 2, 1);
        faulty("m3,0;", 3, 2);
        faulty("m3,7;", 3, 2);
        faulty("m3,10;", 3, 2);
        faulty("m3,123", 3, 1);
        faulty("m3,4,", 4, 1);
        faulty("m10,7;", 1, 2);
        faulty("1", 0, 1);
        faulty("" + (char) 255, 0, 1);
    }

    private static void thingFaults() {
        faulty("m3,4;x1,0,1,0;", 5, 1);
        faulty("m3,4;m3,4;", 5, 1);
        faulty("m3,4;;", 5, 1);
        faulty("m3,4;I1,0,1,0;", 5, 1);
        faulty("m3,4;7", 5, 1);
        faulty("m3,4; ", 5, 1);
        faulty("m3,4;i", 6, 1);
        faulty("m3,4;i41,0,1,0;", 6, 2);
        faulty("m3,4;i401,0,1,0;", 6, 1);
        faulty("m3,4;i1", 7, 1);
        faulty("m3,4;i1;", 7, 1);
        faulty("m3,4;i1,4,1,0;", 8, 2);
        faulty("m3,4;i1,0,0,0;", 10, 2);
        faulty("m3,4;i1,0,10,0;", 10, 2);
        faulty("m3,4;i1,0,1,16;", 12, 2);
        faulty("m3,1;i1,0,1,2;", 12, 2);
        faulty("m3,6;i1,0,1,64;", 12, 2);
        faulty("m3,6;i1,0,1,630;", 12, 1);
        faulty("m3,6;i1,0,1,63", 14, 1);
        faulty("m3,6;i1,0,1,63,", 14, 1);
        faulty("m3,6;i1,0,1,1;c1,0,1,x", 21, 1);
        String five = "m3,4;" + "s1,0,1,0;".repeat(5);
        faulty(five + "s1,0,1,0;", 50, 3);
        faulty(five + "g", 50, 3);
        faulty(five + "i41", 50, 3);
        faulty(five + "m", 50, 1);
        faulty(five + "1", 50, 1);
        faulty(five + ";", 50, 1);
    }

    private static void standsInPlace() {
        BuriedHalves x = new BuriedHalves();
        x.row(3, 0, 4);
        read(x, FIVE);
        x.image(1);
        x.years(3);
        x.bury(0, 0, 40);
        x.tell(4, 0, 1);
        due("asked", x.ask(3, 0), -99);
        due("no grave", x.as(3, 5), -1000013);
        due("acts", x.count(6), 5);
        due("read anew", read(x, "m1,2;w3,1,4,2;"), 1);
        int[] counts = {1, 1, 2, 0, 1, 0, 0, 0};
        for (int what = 0; what < 8; what++) {
            due("count " + what, x.count(what), counts[what]);
        }
        due("nothing to undo", x.undo(), BuriedHalves.STATE);
        due("no such thing now", x.thing(1, 0), BuriedHalves.BAD);
        due("no such man now", x.knows(2), BuriedHalves.BAD);
        due("images stay", x.restore(1), 1);
        due("trace stays", x.trace(0), 13);
        due("status stays", x.status(), 3);
        due("rows stay", x.drop(3), 4);
        due("five again", x.count(1), 5);
        due("empty law", read(x, "m0,1;"), 0);
        due("there is a mine", x.up(0), 0);
        due("no year was", x.years(24), 0);
        due("read a shorter one", read(x, "m0,1;"), 0);
        due("year 0", x.count(3), 0);
    }

    private static void latestFault() {
        BuriedHalves x = new BuriedHalves();
        due("first fault", read(x, "m99,1;"), -1000101);
        due("its number", x.fault(), 2);
        due("fine", read(x, "m1,1;"), 0);
        due("it stays", x.fault(), 2);
        due("another", read(x, "m1,1"), -1000104);
        due("its number", x.fault(), 1);
        due("full", read(x, "m3,4;" + "s1,0,1,0;".repeat(6)), -1000150);
        due("its number", x.fault(), 3);
    }
}
