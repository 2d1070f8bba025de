/** Promises 27 to 38: rings, ROWS. */
public final class RowsTest {
    private static final String SEVEN = "person a;person b;person c;person d;person e;person f;person g;";
    private static final String LINE = "stair a b;stair b c;stair c d;stair d e;stair e f;stair f g;";

    public static void main(String[] args) {
        ringsOfKeys();
        ringAtIsRefused();
        homewardGoesTheShortestWay();
        homewardTakesTheFirstOfTheShortest();
        homewardSeesNewStairs();
        homewardByNone();
        towardGoesWhereTold();
        homewardBehindToward();
        towardIsRefused();
        waysAreCounted();
        fitsCountsRows();
        fitsOfNobody();
        fitsIsRefused();
        firstAtTellsTheFirstRow();
        askPartsTheBest();
        askIsRefused();
        Check.end("RowsTest");
    }

    private static void ringsOfKeys() {
        // a lives in b, b in c, c in a; d, e have swapped; f, g are home
        QuarrelKeys x = Check.with(SEVEN + "swap a b;swap b c;swap d e;");
        Check.due("lives", Check.lives(x), "1204356");
        int[] rings = {3, 3, 3, 2, 2, 1, 1};
        for (int p = 0; p < 7; p++) {
            Check.fine(x, "ring(" + p + ")", x.ring(p), rings[p]);
            Check.fine(x, "ringAt(" + p + ", 0)", x.ringAt(p, 0), p);
        }
        Check.fine(x, "ringAt(0, 1)", x.ringAt(0, 1), 1);
        Check.fine(x, "ringAt(0, 2)", x.ringAt(0, 2), 2);
        Check.fine(x, "ringAt(2, 1)", x.ringAt(2, 1), 0);
        Check.fine(x, "ringAt(2, 2)", x.ringAt(2, 2), 1);
        Check.fine(x, "ringAt(4, 1)", x.ringAt(4, 1), 3);
        Check.fine(x, "rings()", x.rings(), 4);
        Check.fine(x, "undo()", x.undo(), 3);
        QuarrelKeys all = Check.with(SEVEN + "swap a b;swap b c;swap c d;swap d e;swap e f;swap f g;");
        Check.fine(all, "ring of all", all.ring(3), 7);
        Check.fine(all, "rings() of one ring", all.rings(), 1);
        Check.fine(all, "undo() of one ring", all.undo(), 6);
        QuarrelKeys home = Check.with(SEVEN);
        Check.fine(home, "rings() at home", home.rings(), 7);
        Check.fine(home, "undo() at home", home.undo(), 0);
    }

    private static void ringAtIsRefused() {
        QuarrelKeys x = Check.with("person a;person b;person c;swap a b;");
        int[][] wrong = {{-1, 0, 2}, {3, 0, 2}, {3, 9, 2}, {0, -1, 8}, {0, 2, 8}, {2, 1, 8}, {0, Integer.MAX_VALUE, 8},
            {0, Integer.MIN_VALUE, 8}};
        for (int[] w : wrong) {
            Check.refused(x, "ringAt(" + w[0] + ", " + w[1] + ")", y -> y.ringAt(w[0], w[1]), w[2]);
        }
        Check.refused(x, "ring(-1)", y -> y.ring(-1), 2);
        Check.refused(x, "ring(3)", y -> y.ring(3), 2);
    }

    private static void row(QuarrelKeys x, int... due) {
        Check.fine(x, "homeward()", x.homeward(), due.length);
        for (int k = 0; k < due.length; k++) {
            Check.fine(x, "homewardAt(" + k + ")", x.homewardAt(k), due[k]);
        }
        Check.refused(x, "homewardAt(" + due.length + ")", y -> y.homewardAt(due.length), 8);
        Check.refused(x, "homewardAt(-1)", y -> y.homewardAt(-1), 8);
    }

    private static void homewardGoesTheShortestWay() {
        row(Check.with(SEVEN + LINE));
        // seven in a line, all turned about: the longest way that there is
        row(Check.with(SEVEN + LINE + "swap a g;swap b f;swap c e;"),
            0, 1, 0, 2, 1, 0, 3, 2, 1, 0, 4, 3, 2, 1, 0, 5, 4, 3, 2, 1, 0);
        row(Check.with(SEVEN + LINE + "swap f g;"), 5);
        row(new QuarrelKeys());
        // whatever heat, grudge and liking are
        row(Check.with("cool 30;person a temper 0;person b temper 0;stair a b grudge 9;swap a b;like a b 9;"), 0);
    }

    private static void homewardTakesTheFirstOfTheShortest() {
        String three = "person a;person b;person c;";
        // a ring of three on three stairs: any stair first, then one more
        row(Check.with(three + "stair b c;stair a c;stair a b;swap a b;swap b c;"), 0, 2);
        row(Check.with(three + "stair b c;stair a c;stair a b;swap b c;swap a b;"), 0, 1);
        row(Check.with(three + "stair a b;stair b c;stair a c;swap a b;swap b c;"), 0, 2);
        row(Check.with("person a;person b;person c;person d;stair c d;stair a b;swap a b;swap c d;"), 0, 1);
        // a and c over b: two ways of three stairs
        row(Check.with(three + "stair b c;stair a b;swap a c;"), 0, 1, 0);
    }

    private static void homewardSeesNewStairs() {
        QuarrelKeys x = Check.with("person a;person b;person c;stair a b;stair b c;swap a c;");
        row(x, 0, 1, 0);
        x.mark();
        x.build(2, 0);
        row(x, 2);
        x.back();
        row(x, 0, 1, 0);
        x.build(0, 2);
        row(x, 2);
        x.quarrel(2);
        row(x);
        x.come();
        x.swap(2, 3);
        Check.refused(x, "homeward() over no stair", y -> y.homeward(), 8);
        x.build(3, 2);
        row(x, 3);
        Check.quarter(x, "person a;person b;person c;person d;stair a b;stair b c;stair a c;stair b d;swap c d;");
        row(x, 1, 3, 1);
        // as many stairs as ahead, but one of them goes elsewhere
        Check.quarter(x, "person a;person b;person c;person d;stair a b;stair b c;stair a c;stair a d;swap c d;");
        row(x, 2, 3, 2);
        Check.quarter(x, "person a;person b;person c;person d;stair a b;stair b c;stair a c;stair c d;swap c d;");
        row(x, 3);
        Check.quarter(x, "person a;person b;person c;stair a b;swap b c;");
        Check.refused(x, "homeward()", y -> y.homeward(), 8);
        Check.quarter(x, "person a;person b;person c;stair c b;swap b c;");
        row(x, 0);
        Check.quarter(x, "person a;person b;person c;stair c a;swap b c;");
        Check.refused(x, "homeward()", y -> y.homeward(), 8);
    }

    private static void homewardByNone() {
        QuarrelKeys x = Check.with("person a;person b;person c;person d;stair a b;stair c d;swap a c;");
        Check.refused(x, "homeward()", y -> y.homeward(), 8);
        Check.refused(x, "homewardAt(0)", y -> y.homewardAt(0), 8);
        x.swap(0, 2);
        row(x);
        x.swap(0, 1);
        row(x, 0);
    }

    private static void toward(QuarrelKeys x, int... due) {
        Check.fine(x, "toward(0)", x.toward(0), due.length);
        for (int k = 0; k < due.length; k++) {
            Check.fine(x, "towardAt(0, " + k + ")", x.towardAt(0, k), due[k]);
        }
        Check.refused(x, "towardAt(0, " + due.length + ")", y -> y.towardAt(0, due.length), 8);
        Check.refused(x, "towardAt(0, -1)", y -> y.towardAt(0, -1), 8);
    }

    private static void towardGoesWhereTold() {
        QuarrelKeys x = Check.with("person a;person b;person c;stair a b;stair b c;swap a b;");
        Check.lay(x, 0, 1, 0, 2);
        toward(x);
        Check.lay(x, 0, 0, 1, 2);
        toward(x, 0);
        // a lives in b, b in a, c in c: c shall have b, a shall have a, b shall have c
        Check.lay(x, 0, 0, 2, 1);
        toward(x, 0, 1);
        Check.lay(x, 0, 1, 2, 0, 99);
        toward(x, 1);
        Check.lay(x, 0, 2, 1, 0, -5, 7);
        toward(x, 1, 0);
        for (int sort = 0; sort < 4; sort++) {
            x.tray(0, sort, 3);
            x.write(0, 0, 1);
            x.write(0, 1, 2);
            toward(x, 1);
        }
        QuarrelKeys nobody = new QuarrelKeys();
        nobody.tray(0, 0, 0);
        toward(nobody);
    }

    private static void homewardBehindToward() {
        QuarrelKeys x = Check.with("person a;person b;stair a b;");
        Check.lay(x, 0, 1, 0);
        Check.fine(x, "toward(0)", x.toward(0), 1);
        Check.fine(x, "homeward()", x.homeward(), 0);
        x.swap(0, 1);
        Check.fine(x, "toward(0)", x.toward(0), 0);
        Check.fine(x, "homeward()", x.homeward(), 1);
        Check.fine(x, "homewardAt(0)", x.homewardAt(0), 0);
    }

    private static void towardIsRefused() {
        QuarrelKeys x = Check.with("person a;person b;person c;stair a b;");
        int[][] trays = {{-1, 1}, {4, 1}, {1, 3}};
        for (int[] w : trays) {
            Check.refused(x, "toward(" + w[0] + ")", y -> y.toward(w[0]), w[1]);
            Check.refused(x, "towardAt(" + w[0] + ", 0)", y -> y.towardAt(w[0], 0), w[1]);
        }
        long[][] wrong = {{4, 0, 1}, {4, 7, 7}, {5, 0, 1, 3}, {5, 0, 1, -1}, {5, 0, 0, 1}, {5, 1, 2, 2}, {8, 2, 1, 0},
            {5, 0, 1, 4294967298L}, {5, Long.MIN_VALUE, 1, 2}, {5, 0, 1, 2 + (1L << 32)}};
        for (long[] w : wrong) {
            Check.lay(x, 1, java.util.Arrays.copyOfRange(w, 1, w.length));
            Check.refused(x, "toward of " + java.util.Arrays.toString(w), y -> y.toward(1), (int) w[0]);
            Check.refused(x, "towardAt of " + java.util.Arrays.toString(w), y -> y.towardAt(1, 0), (int) w[0]);
        }
    }

    private static void ways(String text, int due) {
        QuarrelKeys x = Check.with(text);
        Check.fine(x, "ways() of " + text, x.ways(), due);
    }

    private static void waysAreCounted() {
        ways("", 1);
        ways(SEVEN, 1);
        ways(SEVEN + LINE, 5040);
        ways(SEVEN + LINE + "swap a g;stair a g;stair b d;", 5040);
        ways(SEVEN + "stair a b;stair c d;stair e f;", 8);
        ways(SEVEN + "stair g f;stair f e;stair a b;stair b c;stair c d;", 24 * 6);
        ways(SEVEN + "stair a b;stair a c;stair b c;stair d g;", 12);
        ways("person a;person b;swap a b;", 1);
        ways(SEVEN + "stair f g;stair e f;stair d e;stair c d;stair b c;stair a b;", 5040);
    }

    private static void fitsCountsRows() {
        QuarrelKeys x = Check.with("person a;person b;person c;stair a b;stair b c;");
        // all told: rows of two: ab ab: 012, ab bc: 120, bc ab: 201, bc bc: 012
        Check.lay(x, 0, 0, 0, 1, 1, 2, 2, 0, 1, 1, 2);
        Check.fine(x, "fits(0, 0, 0)", x.fits(0, 0, 0), 1);
        Check.fine(x, "fits(0, 0, 2)", x.fits(0, 0, 2), 4);
        Check.fine(x, "fits(0, 0, 5)", x.fits(0, 0, 5), 32);
        Check.fine(x, "fits(0, 1, 0)", x.fits(0, 1, 0), 1);
        Check.fine(x, "fits(0, 1, 1): a in a", x.fits(0, 1, 1), 1);
        Check.fine(x, "fits(0, 1, 2): a in a", x.fits(0, 1, 2), 2);
        Check.fine(x, "fits(0, 3, 2): all home", x.fits(0, 3, 2), 2);
        Check.fine(x, "fits(0, 3, 1): all home", x.fits(0, 3, 1), 0);
        Check.fine(x, "fits(0, 4, 2): a in a and in b", x.fits(0, 4, 2), 0);
        Check.lay(x, 1, 0, 0, 0, 1);
        Check.fine(x, "fits(1, 2, 1): a in a and in b", x.fits(1, 2, 1), 0);
        Check.fine(x, "fits(1, 1, 1): a in a", x.fits(1, 1, 1), 1);
        Check.lay(x, 1, 0, 1, 1, 2, 0, 1, 1, 2);
        Check.fine(x, "fits(1, 2, 2): a in b, b in c", x.fits(1, 2, 2), 1);
        Check.fine(x, "fits(1, 4, 2): the same twice", x.fits(1, 4, 2), 1);
        long[] twenty = new long[41];
        Check.lay(x, 2, twenty);
        Check.fine(x, "fits(2, 20, 4): a in a, twenty times", x.fits(2, 20, 4), 6);
        // where all live now counts, not where they are at home
        x.swap(0, 2);
        Check.fine(x, "fits(0, 1, 0): a in a", x.fits(0, 1, 0), 0);
        Check.fine(x, "fits(0, 3, 3): all home", x.fits(0, 3, 3), 2);
        QuarrelKeys all = Check.with(SEVEN + LINE + "stair a c;stair b d;stair c e;stair d f;");
        all.tray(0, 0, 2);
        Check.fine(all, "fits(0, 0, 5) of ten stairs", all.fits(0, 0, 5), 100000);
    }

    private static void fitsOfNobody() {
        QuarrelKeys x = new QuarrelKeys();
        Check.lay(x, 0, 0, 0);
        Check.fine(x, "fits(0, 0, 0)", x.fits(0, 0, 0), 1);
        Check.fine(x, "fits(0, 0, 1)", x.fits(0, 0, 1), 0);
        Check.refused(x, "fits(0, 1, 0): nobody", y -> y.fits(0, 1, 0), 5);
    }

    private static void fitsRefused(QuarrelKeys x, int tray, int n, int k, int status) {
        String args = "(" + tray + ", " + n + ", " + k + ")";
        Check.refused(x, "fits" + args, y -> y.fits(tray, n, k), status);
        Check.refused(x, "firstAt" + args, y -> y.firstAt(tray, n, k, 0), status);
        Check.refused(x, "ask" + args, y -> y.ask(tray, n, k), status);
    }

    private static void fitsIsRefused() {
        QuarrelKeys x = Check.with("person a;person b;stair a b;");
        Check.lay(x, 0, 0, 0, 1, 1);
        fitsRefused(x, -1, 0, 0, 1);
        fitsRefused(x, 4, -1, 9, 1);
        fitsRefused(x, 1, -1, 9, 3);
        fitsRefused(x, 0, 3, 1, 4);
        fitsRefused(x, 0, 3, 9, 4);
        fitsRefused(x, 0, 21, 1, 4);
        fitsRefused(x, 0, Integer.MAX_VALUE, 1, 4);
        fitsRefused(x, 0, 1 << 30, 1, 4);
        fitsRefused(x, 0, -1, 1, 5);
        fitsRefused(x, 0, Integer.MIN_VALUE, 1, 5);
        fitsRefused(x, 0, 1, -1, 5);
        fitsRefused(x, 0, 1, 6, 5);
        x.tray(2, 0, 60);
        fitsRefused(x, 2, 21, 1, 5);
        fitsRefused(x, 2, 30, 1, 5);
        fitsRefused(x, 2, 31, 1, 4);
        Check.fine(x, "fits(2, 20, 0)", x.fits(2, 20, 0), 1);
        long[][] wrong = {{2, 0}, {0, 2}, {-1, 0}, {0, -1}, {1L << 32, 0}, {0, Long.MIN_VALUE}};
        for (long[] w : wrong) {
            Check.lay(x, 3, 0, 0, w[0], w[1]);
            fitsRefused(x, 3, 2, 1, 5);
            Check.fine(x, "fits(3, 1, 0): what stands behind does not count", x.fits(3, 1, 0), 1);
        }
    }

    private static void firstAtTellsTheFirstRow() {
        QuarrelKeys x = Check.with("person a;person b;person c;stair a b;stair b c;stair a c;");
        Check.lay(x, 0, 0, 1, 1, 2);
        // a in b, b in c, c in a: ab bc, bc ac, ac ab are the rows of two
        Check.fine(x, "fits(0, 2, 2)", x.fits(0, 2, 2), 3);
        Check.fine(x, "firstAt(0, 2, 2, 0)", x.firstAt(0, 2, 2, 0), 0);
        Check.fine(x, "firstAt(0, 2, 2, 1)", x.firstAt(0, 2, 2, 1), 1);
        Check.lay(x, 1, 1, 1, 0, 2);
        Check.fine(x, "firstAt(1, 2, 1, 0)", x.firstAt(1, 2, 1, 0), 2);
        int[] due = {0, 0, 0, 0, 2};
        for (int place = 0; place < 5; place++) {
            Check.fine(x, "firstAt(1, 2, 5, " + place + ")", x.firstAt(1, 2, 5, place), due[place]);
        }
        int[][] wrong = {{2, 1, 1}, {2, 1, -1}, {2, 0, 0}, {2, 2, 0}, {0, 3, 3}, {0, 0, 0}, {0, 5, Integer.MAX_VALUE},
            {0, 5, Integer.MIN_VALUE}};
        for (int[] w : wrong) {
            Check.refused(x, "firstAt(1, " + w[0] + ", " + w[1] + ", " + w[2] + ")",
                y -> y.firstAt(1, w[0], w[1], w[2]), 8);
        }
        Check.fine(x, "firstAt(1, 0, 5, 4)", x.firstAt(1, 0, 5, 4), 0);
    }

    private static void askPartsTheBest() {
        QuarrelKeys x = Check.with("person a;person b;person c;person d;stair a b;stair b c;stair b d;");
        x.tray(0, 0, 8);
        // a stays at home in two rows of three, b nowhere twice
        Check.fine(x, "ask(0, 0, 1)", x.ask(0, 0, 1), 1);
        QuarrelKeys line = Check.with("person a;person b;person c;stair a b;stair b c;");
        line.tray(0, 0, 8);
        Check.fine(line, "ask(0, 0, 1): all as good, the first", line.ask(0, 0, 1), 0);
        QuarrelKeys far = Check.with("person a;person b;person c;person d;stair c d;stair b c;");
        far.tray(0, 0, 8);
        Check.fine(far, "ask(0, 0, 1): a knows nothing", far.ask(0, 0, 1), 1);
        far.write(0, 0, 1);
        far.write(0, 1, 1);
        // b in b: rows of three are cd cd cd, cd bc bc, bc bc cd, and cd bc cd leaves b in d
        Check.fine(far, "fits(0, 1, 3)", far.fits(0, 1, 3), 3);
        Check.refused(far, "ask(0, 1, 3): all live alike", y -> y.ask(0, 1, 3), 8);
    }

    private static void askIsRefused() {
        QuarrelKeys x = Check.with("person a;person b;person c;person d;stair a b;stair c d;");
        Check.lay(x, 0, 0, 0, 0, 1, 0, 2);
        Check.refused(x, "ask(0, 0, 0): one row", y -> y.ask(0, 0, 0), 8);
        Check.refused(x, "ask(0, 1, 1): one row fits", y -> y.ask(0, 1, 1), 8);
        Check.fine(x, "fits(0, 1, 2): ab ab, cd cd", x.fits(0, 1, 2), 2);
        Check.refused(x, "ask(0, 1, 2): two rows, all live alike", y -> y.ask(0, 1, 2), 8);
        Check.refused(x, "ask(0, 2, 2): a in a and in b", y -> y.ask(0, 2, 2), 8);
        Check.refused(x, "ask(0, 3, 5): none fits", y -> y.ask(0, 3, 5), 8);
        Check.fine(x, "ask(0, 0, 2)", x.ask(0, 0, 2), 0);
        QuarrelKeys nobody = new QuarrelKeys();
        nobody.tray(0, 0, 0);
        Check.refused(nobody, "ask of nobody", y -> y.ask(0, 0, 0), 8);
        Check.refused(nobody, "ask of nobody without stairs", y -> y.ask(0, 0, 1), 8);
    }
}
