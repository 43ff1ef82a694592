/** Promises 26 to 32: images, kinds, asks, the trace, and counts. */
public final class KindsTest {
    private static final int BAD = BuriedHalves.BAD;
    private static final int STATE = BuriedHalves.STATE;
    private static final int NONE = BuriedHalves.NONE;
    private static int wrong = 0;

    private static void due(String call, int got, int want) {
        if (got != want) {
            wrong++;
            System.out.println(call + " answered " + got + ", due is " + want);
        }
    }

    private static void read(BuriedHalves x, String text) {
        for (int i = 0; i < text.length(); i++) {
            x.feed(text.charAt(i));
        }
        x.mine();
    }

    public static void main(String[] args) {
        images();
        kinds();
        sizes();
        marks();
        traceStays();
        counts();
        System.exit(wrong == 0 ? 0 : 1);
    }

    private static void images() {
        BuriedHalves x = new BuriedHalves();
        due("image -1", x.image(-1), BAD);
        due("image 2", x.image(2), BAD);
        due("no mine", x.image(0), STATE);
        due("restore -1", x.restore(-1), BAD);
        due("restore 2", x.restore(2), BAD);
        due("none kept", x.restore(0), STATE);
        read(x, "m3,4;i9,0,2,3;c12,1,3,4;");
        x.years(3);
        x.bury(1, 2, 30);
        due("kept", x.image(0), 1);
        due("other not kept", x.restore(1), STATE);
        x.years(2);
        x.bury(0, 3, 20);
        x.tell(0, 3, 1);
        due("acts", x.count(6), 8);
        due("kept, too", x.image(1), 1);
        due("keeping is no act", x.count(6), 8);
        due("restored", x.restore(0), 1);
        due("no act", x.count(6), 0);
        due("nothing to undo", x.undo(), STATE);
        due("year", x.count(3), 3);
        due("dug", x.count(5), 41);
        due("place", x.thing(0, 1), 0);
        due("depth", x.thing(0, 0), 7);
        due("known", x.thing(0, 3), 3);
        x.years(1);
        due("the image stays as it was", x.restore(0), 1);
        due("year again", x.count(3), 3);
        read(x, "m5,2;");
        due("no things", x.count(1), 0);
        due("the other one", x.restore(1), 1);
        due("things", x.count(1), 2);
        due("men", x.count(2), 4);
        due("near", x.count(4), 3);
        due("year", x.count(3), 5);
        due("dug", x.count(5), 67);
        due("place", x.thing(0, 1), 3);
        due("known", x.thing(0, 3), 11);
        due("slow", x.thing(1, 2), 3);
        due("kind", x.kind(1), 2);
        x.image(0);
        read(x, "m5,2;");
        due("kept anew", x.restore(0), 1);
        due("in place of the first", x.count(3), 5);
    }

    private static void kinds() {
        BuriedHalves x = new BuriedHalves();
        due("kind of none", x.kind(0), BAD);
        due("as of none", x.as(0, 0), BAD);
        read(x, "m3,4;i9,0,2,3;c12,1,3,4;w7,2,5,0;s8,3,6,0;g4,3,7,0;");
        int[] are = {1 | 2, 1 | 2 | 4, 1 | 2 | 8, 1 | 16, 1 | 16 | 32};
        for (int t = 0; t < 5; t++) {
            due("kind of " + t, x.kind(t), t + 1);
            for (int kind = 0; kind < 6; kind++) {
                boolean is = ((are[t] >> kind) & 1) == 1;
                due(t + " as " + kind, x.as(t, kind), is ? t : -1000013);
                due("status of " + t + " as " + kind, x.status(), is ? 0 : 3);
            }
        }
        due("kind 5", x.kind(5), BAD);
        due("kind -1", x.kind(-1), BAD);
        due("as -1", x.as(-1, 0), BAD);
        due("as 5", x.as(5, 0), BAD);
        due("as kind 6", x.as(0, 6), BAD);
        due("as kind -1", x.as(0, -1), BAD);
    }

    private static void asked(BuriedHalves x, int thing, int what, int answer, int... trace) {
        String call = "ask(" + thing + ", " + what + ")";
        due(call, x.ask(thing, what), answer);
        for (int i = 0; i < 17; i++) {
            due("trace " + i + " of " + call, x.trace(i), i < trace.length ? trace[i] : NONE);
        }
    }

    private static void sizes() {
        BuriedHalves x = new BuriedHalves();
        read(x, "m3,4;i9,0,2,3;c12,1,3,4;w7,2,5,0;s8,3,6,0;g4,3,7,0;");
        asked(x, 0, 0, 2 + 9, 11, 10, 21, 20);
        asked(x, 1, 0, -(3 + 2 * 13), 12, 11, 10, 24, 21, 20);
        asked(x, 2, 0, 5 + 2 + 7 - 1000, 11, 10, 22, 21, 20);
        asked(x, 3, 0, 6 - 100, 13, 10);
        asked(x, 4, 0, 2 * (7 - 100), 14, 13, 10);
    }

    private static void marks() {
        BuriedHalves x = new BuriedHalves();
        read(x, "m3,4;i9,0,2,3;c12,1,3,4;w7,2,5,0;s8,3,6,0;g4,3,7,0;");
        asked(x, 0, 1, 9, 21, 20);
        asked(x, 1, 1, 26, 24, 21, 20);
        asked(x, 2, 1, 9 - 1000, 22, 21, 20);
        asked(x, 3, 1, 3 - (6 - 100), 23, 20, 13, 10);
        asked(x, 4, 1, 4 - 2 * (7 - 100), 23, 20, 14, 13, 10);
        x.bury(0, 0, 33);
        asked(x, 0, 1, 33, 21, 20);
    }

    private static void traceStays() {
        BuriedHalves x = new BuriedHalves();
        due("ask of none", x.ask(0, 0), BAD);
        due("empty", x.trace(0), NONE);
        read(x, "m3,4;s8,3,6,0;");
        x.ask(0, 0);
        due("bad ask", x.ask(0, 2), BAD);
        due("bad ask", x.ask(0, -1), BAD);
        due("bad ask", x.ask(1, 0), BAD);
        due("bad ask", x.ask(-1, 0), BAD);
        due("stays", x.trace(0), 13);
        due("stays", x.trace(1), 10);
        due("no more", x.trace(2), NONE);
        due("-1", x.trace(-1), NONE);
        due("16", x.trace(16), NONE);
        due("far", x.trace(Integer.MAX_VALUE), NONE);
        due("farther", x.trace(Integer.MIN_VALUE), NONE);
        x.years(3);
        x.undo();
        due("acts leave it", x.trace(0), 13);
    }

    private static void counts() {
        BuriedHalves x = new BuriedHalves();
        x.row(2, 0, 1);
        x.row(4, 0, 1);
        read(x, "m7,5;i9,0,2,3;c12,1,3,4;w7,2,5,0;");
        x.years(6);
        x.bury(2, 0, 8);
        x.feed(1);
        x.feed(1);
        x.feed(1);
        x.feed(1);
        due("rows", x.count(0), 2);
        due("things", x.count(1), 3);
        due("men", x.count(2), 5);
        due("year", x.count(3), 6);
        due("near", x.count(4), 7);
        due("dug", x.count(5), 3 + 8);
        due("acts", x.count(6), 7);
        due("bytes", x.count(7), 4);
        due("8", x.count(8), BAD);
        due("-1", x.count(-1), BAD);
    }
}
