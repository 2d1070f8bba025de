/** Promises 1 to 8: a new object, what is told latest, TRAYS. */
public final class TraysTest {
    public static void main(String[] args) {
        newObject();
        statusIsOfTheLatestCallThatHasOne();
        trayIsLaidOut();
        trayIsRefused();
        whatIsWrittenIsCut();
        writeAndReadAreRefused();
        pourMovesNumbersAsTheyWere();
        pourIsRefusedInOrder();
        Check.end("TraysTest");
    }

    private static void newObject() {
        QuarrelKeys x = new QuarrelKeys();
        Check.due("status()", x.status(), 0);
        Check.due("top()", x.top(), 0);
        Check.due("bottom()", x.bottom(), 1);
        Check.due("fault(0)", x.fault(0), -1);
        Check.due("fault(1)", x.fault(1), -1);
        int[] due = {0, 0, 8, 5, 0, 0, 0, 0, 0, 0};
        for (int what = 0; what < due.length; what++) {
            Check.fine(x, "many(" + what + ")", x.many(what), due[what]);
        }
        for (int t = 0; t < 4; t++) {
            int tray = t;
            Check.refused(x, "read of a MISSING tray", y -> y.read(tray, 0), 3);
        }
        Check.refused(x, "live without decades", y -> y.live(0), 8);
        Check.refused(x, "lived before live", y -> y.lived(0), 8);
        Check.refused(x, "back without a mark", y -> y.back(), 8);
        Check.refused(x, "quarter(1) of an empty tape", y -> y.quarter(1), 5);
        Check.refused(x, "decades(1) of an empty tape", y -> y.decades(1), 5);
        Check.due("NONE", QuarrelKeys.NONE, -1);
    }

    private static void statusIsOfTheLatestCallThatHasOne() {
        QuarrelKeys x = new QuarrelKeys();
        x.read(9, 0);
        Check.due("status()", x.status(), 1);
        Check.due("status() again", x.status(), 1);
        x.top();
        x.bottom();
        x.fault(0);
        x.fault(7);
        Check.due("feed", x.feed(0, 0, 0, 0, 0), 20);
        Check.due("status() behind calls that have none", x.status(), 1);
        x.many(0);
        Check.due("status() behind one that has", x.status(), 0);
    }

    private static void trayIsLaidOut() {
        QuarrelKeys x = new QuarrelKeys();
        for (int sort = 0; sort < 4; sort++) {
            Check.fine(x, "tray(" + sort + ", " + sort + ", 60)", x.tray(sort, sort, 60));
            Check.fine(x, "read of the last", x.read(sort, 59), 0);
            Check.fine(x, "write", x.write(sort, 59, 5));
            Check.fine(x, "write", x.write(sort, 0, 5));
            Check.fine(x, "tray anew", x.tray(sort, sort, 60));
            Check.fine(x, "read of a new tray", x.read(sort, 59), 0);
            Check.fine(x, "read of a new tray", x.read(sort, 0), 0);
        }
        Check.fine(x, "tray(0, 0, 0)", x.tray(0, 0, 0));
        int empty = 0;
        Check.refused(x, "read of an empty tray", y -> y.read(empty, 0), 4);
        x.tray(0, 0, 3);
        x.write(0, 2, 7);
        x.tray(0, 0, 1);
        x.tray(0, 0, 3);
        Check.fine(x, "read of what a shorter tray hid", x.read(0, 2), 0);
    }

    private static void trayIsRefused() {
        QuarrelKeys x = new QuarrelKeys();
        Check.lay(x, 1, 4, 5, 6);
        Check.denied(x, "tray(-1, 0, 1)", y -> y.tray(-1, 0, 1), 1);
        Check.denied(x, "tray(4, 0, 1)", y -> y.tray(4, 0, 1), 1);
        Check.denied(x, "tray(1, -1, 1)", y -> y.tray(1, -1, 1), 1);
        Check.denied(x, "tray(1, 4, 1)", y -> y.tray(1, 4, 1), 1);
        Check.denied(x, "tray(1, 4, 61)", y -> y.tray(1, 4, 61), 1);
        Check.denied(x, "tray(4, 0, -1)", y -> y.tray(4, 0, -1), 1);
        Check.denied(x, "tray(1, 0, 61)", y -> y.tray(1, 0, 61), 5);
        Check.denied(x, "tray(1, 0, MAX)", y -> y.tray(1, 0, Integer.MAX_VALUE), 5);
        Check.denied(x, "tray(1, 0, -1)", y -> y.tray(1, 0, -1), 6);
        Check.denied(x, "tray(1, 0, MIN)", y -> y.tray(1, 0, Integer.MIN_VALUE), 6);
    }

    private static void cut(int sort, long written, long due) {
        QuarrelKeys x = new QuarrelKeys();
        x.tray(2, sort, 1);
        Check.fine(x, "write of " + written + " to sort " + sort, x.write(2, 0, written));
        Check.fine(x, "read of it", x.read(2, 0), due);
    }

    private static void whatIsWrittenIsCut() {
        cut(0, 127, 127);
        cut(0, 128, -128);
        cut(0, 255, -1);
        cut(0, 256, 0);
        cut(0, -129, 127);
        cut(0, -128, -128);
        cut(1, 32767, 32767);
        cut(1, 32768, -32768);
        cut(1, 65535, -1);
        cut(1, 65536 + 3, 3);
        cut(1, -32769, 32767);
        cut(2, 2147483647L, 2147483647L);
        cut(2, 2147483648L, -2147483648L);
        cut(2, 4294967295L, -1);
        cut(2, 4294967296L + 7, 7);
        cut(3, Long.MAX_VALUE, Long.MAX_VALUE);
        cut(3, Long.MIN_VALUE, Long.MIN_VALUE);
        cut(3, -1, -1);
    }

    private static void writeAndReadAreRefused() {
        QuarrelKeys x = new QuarrelKeys();
        Check.lay(x, 0, 1, 2);
        int[][] wrong = {{-1, 0, 1}, {4, 0, 1}, {4, -1, 1}, {1, 0, 3}, {1, -1, 3}, {0, -1, 4}, {0, 2, 4},
            {0, Integer.MAX_VALUE, 4}, {0, Integer.MIN_VALUE, 4}};
        for (int[] w : wrong) {
            Check.refused(x, "read(" + w[0] + ", " + w[1] + ")", y -> y.read(w[0], w[1]), w[2]);
            Check.denied(x, "write(" + w[0] + ", " + w[1] + ", 9)", y -> y.write(w[0], w[1], 9), w[2]);
        }
        Check.fine(x, "read(0, 1)", x.read(0, 1), 2);
    }

    private static void row(QuarrelKeys x, int tray, long... due) {
        for (int i = 0; i < due.length; i++) {
            Check.due("number " + i + " of tray " + tray, x.read(tray, i), due[i]);
        }
    }

    private static void pourMovesNumbersAsTheyWere() {
        QuarrelKeys x = new QuarrelKeys();
        Check.lay(x, 0, 1, 2, 3, 4, 5);
        Check.lay(x, 1, 9, 9, 9);
        Check.fine(x, "pour to another", x.pour(0, 3, 1, 0, 2));
        row(x, 0, 1, 2, 3, 4, 5);
        row(x, 1, 4, 5, 9);
        Check.fine(x, "pour forward over itself", x.pour(0, 0, 0, 1, 4));
        row(x, 0, 1, 1, 2, 3, 4);
        Check.fine(x, "pour backward over itself", x.pour(0, 2, 0, 0, 3));
        row(x, 0, 2, 3, 4, 3, 4);
        Check.fine(x, "pour of the whole", x.pour(1, 0, 1, 0, 3));
        row(x, 1, 4, 5, 9);
        Check.fine(x, "pour of none at the end", x.pour(0, 5, 1, 3, 0));
        row(x, 1, 4, 5, 9);
        x.tray(2, 0, 2);
        x.tray(3, 0, 2);
        x.write(2, 1, 200);
        Check.fine(x, "pour of bytes", x.pour(2, 1, 3, 0, 1));
        row(x, 3, -56, 0);
    }

    private static void pourDenied(QuarrelKeys x, int tray, int i, int to, int j, int many, int status) {
        Check.denied(x, "pour(" + tray + ", " + i + ", " + to + ", " + j + ", " + many + ")",
            y -> y.pour(tray, i, to, j, many), status);
    }

    private static void pourIsRefusedInOrder() {
        QuarrelKeys x = new QuarrelKeys();
        Check.lay(x, 0, 1, 2, 3);
        Check.lay(x, 1, 4, 5);
        x.tray(2, 0, 9);
        pourDenied(x, -1, 0, 3, 0, -1, 1);
        pourDenied(x, 3, 0, 4, 0, -1, 1);
        pourDenied(x, 3, 0, 2, 0, -1, 3);
        pourDenied(x, 0, 0, 3, 0, -1, 3);
        pourDenied(x, 3, 0, 3, 0, 1, 3);
        pourDenied(x, 0, 9, 2, 9, -1, 11);
        pourDenied(x, 2, 0, 0, 0, 1, 11);
        pourDenied(x, 0, 9, 1, 9, -1, 6);
        pourDenied(x, 0, -1, 1, 0, Integer.MIN_VALUE, 6);
        pourDenied(x, 0, -1, 1, 0, 1, 4);
        pourDenied(x, 0, 0, 1, -1, 1, 4);
        pourDenied(x, 0, 2, 1, 0, 2, 4);
        pourDenied(x, 0, 0, 1, 1, 2, 4);
        pourDenied(x, 0, 0, 1, 0, 3, 4);
        pourDenied(x, 0, 1, 0, 1, Integer.MAX_VALUE, 4);
        pourDenied(x, 0, Integer.MAX_VALUE, 0, 0, 1, 4);
        pourDenied(x, 0, 0, 0, Integer.MAX_VALUE, Integer.MAX_VALUE, 4);
        pourDenied(x, 0, 4, 1, 0, 0, 4);
        pourDenied(x, 0, -1, 1, 0, 0, 4);
    }
}
