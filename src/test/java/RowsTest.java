/** Promises 1 to 5 and 33: a new object, rows, and what status() tells of findings. */
public final class RowsTest {
    private static final int BAD = BuriedHalves.BAD;
    private static int wrong = 0;

    private static void due(String call, int got, int want) {
        if (got != want) {
            wrong++;
            System.out.println(call + " answered " + got + ", due is " + want);
        }
    }

    private static int found(int number) {
        return -1000010 - number;
    }

    private static void read(BuriedHalves x, String text) {
        for (int i = 0; i < text.length(); i++) {
            x.feed(text.charAt(i));
        }
        x.mine();
    }

    public static void main(String[] args) {
        newObject();
        making();
        setting();
        copying();
        dropping();
        statusStays();
        System.exit(wrong == 0 ? 0 : 1);
    }

    private static void newObject() {
        BuriedHalves x = new BuriedHalves();
        for (int what = 0; what < 8; what++) {
            due("new count " + what, x.count(what), 0);
        }
        due("new status", x.status(), 0);
        due("new fault", x.fault(), 0);
        due("new trace", x.trace(0), BuriedHalves.NONE);
        for (int row = 0; row < 8; row++) {
            due("new drop " + row, x.drop(row), found(1));
        }
    }

    private static void making() {
        BuriedHalves x = new BuriedHalves();
        due("row -1", x.row(-1, 0, 1), BAD);
        due("row 8", x.row(8, 0, 1), BAD);
        due("lane -1", x.row(0, -1, 1), BAD);
        due("lane 3", x.row(0, 3, 1), BAD);
        due("41 items", x.row(0, 0, 41), BAD);
        due("lane 3, -1 items", x.row(0, 3, -1), BAD);
        due("row 8, -1 items", x.row(8, 0, -1), BAD);
        due("most items", x.row(0, 0, Integer.MAX_VALUE), BAD);
        due("no finding yet", x.status(), 0);
        due("no row yet", x.count(0), 0);
        due("-1 items", x.row(0, 0, -1), found(4));
        due("size", x.status(), 4);
        due("least items", x.row(0, 0, Integer.MIN_VALUE), found(4));
        due("no row yet", x.count(0), 0);
        due("0 items", x.row(0, 0, 0), 0);
        due("fine", x.status(), 0);
        due("one row", x.count(0), 1);
        due("no item", x.set(0, 0, 1), found(2));
        due("40 items", x.row(7, 2, 40), 40);
        due("two rows", x.count(0), 2);
        due("last item", x.set(7, 39, 9), 9);
        due("beyond", x.set(7, 40, 9), found(2));
        due("anew", x.row(7, 2, 40), 40);
        due("still two rows", x.count(0), 2);
        read(x, "m0,1;i1,0,1,0;");
        due("stone", x.fits(0, 7, 39, 1, 0), 2 | 4 | 8);
        due("found keeps the row", x.row(7, 2, -1), found(4));
        due("its items stay", x.drop(7), 40);
        due("shorter", x.row(0, 2, 3), 3);
        due("anew longer", x.row(0, 2, 5), 5);
        due("drop", x.drop(0), 5);
    }

    private static void setting() {
        BuriedHalves x = new BuriedHalves();
        x.row(0, 0, 2);
        x.row(1, 1, 2);
        x.row(2, 2, 2);
        due("byte 127", x.set(0, 0, 127), 127);
        due("byte 128", x.set(0, 1, 128), -128);
        due("byte 256", x.set(0, 1, 256), 0);
        due("byte -129", x.set(0, 1, -129), 127);
        due("short 32767", x.set(1, 0, 32767), 32767);
        due("short 32768", x.set(1, 1, 32768), -32768);
        due("short 65537", x.set(1, 1, 65537), 1);
        due("int max", x.set(2, 0, Integer.MAX_VALUE), Integer.MAX_VALUE);
        due("int min", x.set(2, 1, Integer.MIN_VALUE), Integer.MIN_VALUE);
        due("row -1", x.set(-1, 0, 1), BAD);
        due("row 8", x.set(8, 0, 1), BAD);
        due("status stays", x.status(), 0);
        due("missing", x.set(3, 0, 1), found(1));
        due("null", x.status(), 1);
        due("missing ahead of place", x.set(3, -1, 1), found(1));
        due("place -1", x.set(0, -1, 1), found(2));
        due("place", x.status(), 2);
        due("place 2", x.set(0, 2, 1), found(2));
        due("far place", x.set(0, Integer.MAX_VALUE, 1), found(2));
        due("fine again", x.set(0, 0, 1), 1);
        due("status 0 again", x.status(), 0);
    }

    /** What a row of depths is, told by an iron thing buried ever anew: 1 where depth and item are alike. */
    private static int itemOf(BuriedHalves x, int row, int i) {
        for (int depth = 1; depth < 40; depth++) {
            x.bury(0, 0, depth);
            if ((x.fits(0, row, i, 1, 0) & 16) != 0) {
                return depth;
            }
        }
        return -1;
    }

    private static void copying() {
        BuriedHalves x = new BuriedHalves();
        read(x, "m0,1;s9,0,1,0;");
        x.row(0, 0, 6);
        for (int i = 0; i < 6; i++) {
            x.set(0, i, i + 1);
        }
        x.row(1, 0, 4);
        x.row(2, 1, 4);
        due("up within one", x.copy(0, 0, 0, 1, 5), 5);
        int[] shifted = {1, 1, 2, 3, 4, 5};
        for (int i = 0; i < 6; i++) {
            due("shifted up " + i, itemOf(x, 0, i), shifted[i]);
        }
        due("down within one", x.copy(0, 2, 0, 0, 4), 4);
        int[] back = {2, 3, 4, 5, 4, 5};
        for (int i = 0; i < 6; i++) {
            due("shifted down " + i, itemOf(x, 0, i), back[i]);
        }
        due("to another", x.copy(0, 1, 1, 2, 2), 2);
        due("copied 2", itemOf(x, 1, 2), 3);
        due("copied 3", itemOf(x, 1, 3), 4);
        due("not copied", itemOf(x, 1, 1), -1);
        due("none", x.copy(0, 6, 1, 4, 0), 0);
        due("a -1", x.copy(-1, 0, 1, 0, 0), BAD);
        due("a 8", x.copy(8, 0, 1, 0, 0), BAD);
        due("b -1", x.copy(0, 0, -1, 0, 0), BAD);
        due("b 8", x.copy(3, 0, 8, 0, 0), BAD);
        due("a missing", x.copy(3, 0, 0, 0, 0), found(1));
        due("b missing", x.copy(0, 0, 3, 0, 0), found(1));
        due("null ahead of place", x.copy(0, -1, 3, 0, 0), found(1));
        due("lanes", x.copy(0, 0, 2, 0, 1), found(5));
        due("store", x.status(), 5);
        due("lanes, nothing copied", x.copy(0, 0, 2, 0, 0), found(5));
        due("store ahead of place", x.copy(0, -1, 2, 9, 1), found(5));
        due("i -1", x.copy(0, -1, 1, 0, 1), found(2));
        due("j -1", x.copy(0, 0, 1, -1, 1), found(2));
        due("n -1", x.copy(0, 0, 1, 0, -1), found(2));
        due("place", x.status(), 2);
        due("i 7", x.copy(0, 7, 1, 0, 0), found(2));
        due("j 5", x.copy(0, 0, 1, 5, 0), found(2));
        due("beyond a", x.copy(0, 4, 1, 0, 3), found(2));
        due("beyond b", x.copy(0, 0, 1, 2, 3), found(2));
        due("wrapping", x.copy(0, 2, 1, 2, Integer.MAX_VALUE), found(2));
        due("wrapping i", x.copy(0, Integer.MAX_VALUE, 1, 2, 1), found(2));
        due("all", x.copy(0, 0, 1, 0, 4), 4);
        due("fine", x.status(), 0);
        due("copied all", itemOf(x, 1, 3), 5);
        due("found changes nothing", x.copy(0, 0, 1, 1, 4), found(2));
        due("as it was", itemOf(x, 1, 1), 3);
    }

    private static void dropping() {
        BuriedHalves x = new BuriedHalves();
        x.row(5, 1, 7);
        x.row(6, 1, 0);
        due("drop -1", x.drop(-1), BAD);
        due("drop 8", x.drop(8), BAD);
        due("two", x.count(0), 2);
        due("drop", x.drop(5), 7);
        due("one", x.count(0), 1);
        due("drop again", x.drop(5), found(1));
        due("null", x.status(), 1);
        due("set dropped", x.set(5, 0, 1), found(1));
        due("drop empty", x.drop(6), 0);
        due("fine", x.status(), 0);
        due("no rows", x.count(0), 0);
        due("row again", x.row(5, 2, 2), 2);
        due("items of the new one", x.set(5, 2, 0), found(2));
    }

    private static void statusStays() {
        BuriedHalves x = new BuriedHalves();
        read(x, "m0,1;i3,0,1,1;c9,1,1,1;");
        x.drop(0);
        due("null", x.status(), 1);
        x.row(9, 0, 0);
        x.set(9, 0, 0);
        x.copy(9, 0, 0, 0, 0);
        x.drop(9);
        x.fits(9, 0, 0, 1, 0);
        x.as(9, 0);
        x.as(0, 6);
        due("bad calls leave it", x.status(), 1);
        x.years(1);
        x.years(0);
        x.bury(0, 0, 1);
        x.undo();
        x.feed(1);
        x.mine();
        x.lay(0, 0);
        x.ask(0, 0);
        x.restore(0);
        due("others leave it", x.status(), 1);
        due("as", x.as(0, 1), 0);
        due("as that is fine", x.status(), 0);
        due("as that is not", x.as(0, 2), found(3));
        due("kind", x.status(), 3);
        x.row(0, 0, 3);
        due("row", x.status(), 0);
        x.as(0, 5);
        due("fits", x.fits(0, 0, 0, 1, 2), 15);
        due("fits is fine", x.status(), 0);
        due("fits beyond", x.fits(0, 0, 3, 1, 2), found(2));
        due("place", x.status(), 2);
        due("fits missing", x.fits(0, 1, 0, 1, 2), found(1));
        due("null again", x.status(), 1);
    }
}
