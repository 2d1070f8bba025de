/** Promises 1 to 8, boundary by boundary: a new object, what is told latest, TRAYS. */
public final class EdgesOfTraysTest {
    private static final long[][] CUTS = {
        // sort, what is written, what is there then
        {0, 127, 127}, {0, 128, -128}, {0, -128, -128}, {0, -129, 127}, {0, 255, -1}, {0, 256, 0}, {0, -256, 0},
        {0, 32767, -1}, {0, 1L << 40, 0}, {0, Long.MAX_VALUE, -1}, {0, Long.MIN_VALUE, 0},
        {1, 128, 128}, {1, 32767, 32767}, {1, 32768, -32768}, {1, -32768, -32768}, {1, -32769, 32767},
        {1, 65535, -1}, {1, 65536, 0}, {1, Long.MAX_VALUE, -1}, {1, Long.MIN_VALUE, 0},
        {2, 32768, 32768}, {2, 2147483647L, 2147483647L}, {2, 2147483648L, -2147483648L},
        {2, -2147483648L, -2147483648L}, {2, -2147483649L, 2147483647L}, {2, 4294967295L, -1}, {2, 4294967296L, 0},
        {2, Long.MAX_VALUE, -1}, {2, Long.MIN_VALUE, 0},
        {3, 2147483648L, 2147483648L}, {3, 4294967296L, 4294967296L}, {3, Long.MAX_VALUE, Long.MAX_VALUE},
        {3, Long.MIN_VALUE, Long.MIN_VALUE}, {3, -1, -1},
    };

    public static void main(String[] args) {
        makersAreAsTold();
        promise1NewObject();
        promise1ObjectsAreApart();
        promise2EachStatus();
        promise3And4Fractions();
        promise5Tray();
        promise5AllAreZero();
        promise6Write();
        promise6Cuts();
        promise7Read();
        promise8PourTaken();
        promise8PourRefused();
        Check.end("EdgesOfTraysTest");
    }

    /** The full object is full: else what is refused below would be refused for another reason. */
    private static void makersAreAsTold() {
        Edge.taken("full: people", Edge.FULL, x -> x.many(0), 7);
        Edge.taken("full: stairs", Edge.FULL, x -> x.many(1), 10);
        Edge.taken("full: marks", Edge.FULL, x -> x.back(), 2);
        Edge.taken("full: it was lived, a night step of two", Edge.FULL, x -> x.lived(1), 2);
        Edge.taken("full: fault", Edge.FULL, x -> x.fault(0) * 100 + x.fault(1), 305);
        Edge.taken("full: tape", Edge.FULL, x -> x.quarter(40), 1);
        Edge.taken("some: people", Edge.SOME, x -> x.many(0), 3);
        Edge.taken("some: stairs", Edge.SOME, x -> x.many(1), 2);
        Edge.taken("some: marks", Edge.SOME, x -> x.back(), 0);
        Edge.taken("some: decades", Edge.SOME, x -> x.live(0), 3);
        String[] all = {Edge.allOf(Edge.FULL.make()), Edge.allOf(Edge.SOME.make()), Edge.allOf(Edge.BARE.make())};
        Check.due("twins are alike", Edge.allOf(Edge.FULL.make()), all[0]);
        Check.due("others are not", all[0].equals(all[1]) || all[1].equals(all[2]), false);
    }

    private static void promise1NewObject() {
        QuarrelKeys x = new QuarrelKeys();
        Check.due("1 status() ahead of all", x.status(), 0);
        Check.due("1 top()", x.top(), 0);
        Check.due("1 bottom()", x.bottom(), 1);
        Check.due("1 fault(0) ahead of any", x.fault(0), -1);
        Check.due("1 fault(1) ahead of any", x.fault(1), -1);
        Check.due("1 status() behind these", x.status(), 0);
        int[] many = {0, 0, 8, 5, 0, 0, 0, 0, 0, 0};
        for (int what = 0; what < 10; what++) {
            int asked = what;
            Edge.taken("1 many(" + what + ")", Edge.BARE, y -> y.many(asked), many[what]);
        }
        for (int t = 0; t < 4; t++) {
            int tray = t;
            Edge.refused("1 read of MISSING " + t, Edge.BARE, y -> y.read(tray, 0), 3);
            Edge.denied("1 write to MISSING " + t, Edge.BARE, y -> y.write(tray, 0, 1), 3);
            Edge.denied("1 pour of MISSING " + t, Edge.BARE, y -> y.pour(tray, 0, tray, 0, 0), 3);
            Edge.refused("1 copyLives to MISSING " + t, Edge.BARE, y -> y.copyLives(tray), 3);
            Edge.refused("1 toward MISSING " + t, Edge.BARE, y -> y.toward(tray), 3);
            Edge.refused("1 fits of MISSING " + t, Edge.BARE, y -> y.fits(tray, 0, 0), 3);
        }
        Edge.refused("1 no PERSON", Edge.BARE, y -> y.person(0, 0), 2);
        Edge.refused("1 no STAIR", Edge.BARE, y -> y.stair(0, 0), 2);
        Edge.refused("1 no DECADES for live", Edge.BARE, y -> y.live(0), 8);
        Edge.denied("1 no DECADES for mean", Edge.BARE, y -> y.mean(0, 1), 8);
        Edge.refused("1 nothing lived", Edge.BARE, y -> y.lived(0), 8);
        Edge.refused("1 no MARK", Edge.BARE, y -> y.back(), 8);
        Edge.taken("1 the first MARK", Edge.BARE, y -> y.mark(), 1);
        Edge.refused("1 an empty tape for quarter", Edge.BARE, y -> y.quarter(1), 5);
        Edge.refused("1 an empty tape for decades", Edge.BARE, y -> y.decades(1), 5);
        Edge.taken("1 an empty tape for feed", Edge.BARE, y -> y.feed(0, 0, 0, 0, 0), 20);
        Edge.taken("1 the first one who comes", Edge.BARE, y -> y.come(), 0);
        Check.due("1 NONE", QuarrelKeys.NONE, -1);
    }

    private static void promise1ObjectsAreApart() {
        QuarrelKeys before = new QuarrelKeys();
        String bare = Edge.allOf(new QuarrelKeys());
        QuarrelKeys full = Edge.FULL.make();
        Edge.allOf(full);
        Check.due("1 an object made ahead of a full one", Edge.allOf(before), bare);
        Check.due("1 an object made behind it", Edge.allOf(new QuarrelKeys()), bare);
    }

    private static void told(int status, Check.Call call) {
        QuarrelKeys x = Edge.FULL.make();
        call.answer(x);
        Check.due("2 STATUS " + status, x.status(), status);
        Check.due("2 STATUS " + status + " asked again", x.status(), status);
        x.top();
        x.bottom();
        x.fault(0);
        x.fault(1);
        x.fault(2);
        x.feed(1, 2, 3, 4, 5);
        for (int i = 0; i < 46; i++) {
            x.feed(Edge.BLANKS, 0, 0, 0, 0);
        }
        Check.due("2 STATUS " + status + " behind calls that have none", x.status(), status);
        x.envy();
        Check.due("2 STATUS 0 behind STATUS " + status, x.status(), 0);
    }

    private static void promise2EachStatus() {
        told(0, x -> x.many(0));
        told(1, x -> x.read(4, 0));
        told(2, x -> x.person(7, 0));
        told(3, x -> x.read(3, 0));
        told(4, x -> x.read(0, 60));
        told(5, x -> x.many(10));
        told(6, x -> x.tray(0, 0, -1) ? 1 : 0);
        told(7, x -> x.mark());
        told(8, x -> x.ringAt(0, 7));
        // STAIR 4 has GRUDGE 9
        told(9, x -> x.quarrel(4));
        told(10, x -> x.quarter(7));
        told(11, x -> x.pour(0, 0, 1, 0, 1) ? 1 : 0);
    }

    private static void fraction(String edge, QuarrelKeys x, boolean done, long top, long bottom) {
        Check.fine(x, edge, done);
        Check.due(edge + ", top()", x.top(), top);
        Check.due(edge + ", bottom()", x.bottom(), bottom);
    }

    private static void promise3And4Fractions() {
        QuarrelKeys x = Check.with("person a;person b;person c;person d;stair a b;stair c d;", "");
        fraction("3 one", x, x.drift(0, 0, 0), 1, 1);
        fraction("3 a half", x, x.drift(0, 1, 1), 1, 2);
        fraction("3 two by four, without a common divisor", x, x.drift(0, 0, 2), 1, 2);
        fraction("3 nothing is 0 by 1", x, x.drift(0, 2, 5), 0, 1);
        fraction("3 a mean above one", x, x.mean(0, 20), 4, 1);
        Check.denied(x, "3 a refused drift leaves it", y -> y.drift(0, 4, 1), 2);
        Check.denied(x, "3 a refused mean leaves it", y -> y.mean(0, 21), 5);
        x.night(1);
        x.mark();
        Check.quarter(x, "person a;person b;");
        x.back();
        x.tray(0, 0, 1);
        Check.due("3 top() behind other calls", x.top(), 4);
        Check.due("4 bottom() behind other calls", x.bottom(), 1);
        fraction("3 it is that told latest", x, x.drift(0, 1, 1), 1, 2);
        Check.due("3 top() behind a call that has no FRACTION", x.many(0) * 0 + x.top(), 1);
        // ten STAIRS, five times: bottoms up to 10 to the 5th
        QuarrelKeys y = Check.with(Edge.SEVEN + Edge.LINE + "stair b d;stair c g;stair e g;stair d f;");
        fraction("4 one of ten", y, y.drift(0, 1, 1), 1, 10);
        fraction("4 one of a hundred", y, y.drift(0, 2, 2), 1, 100);
        fraction("4 the greatest bottom", y, y.drift(0, 0, 5), 65011, 100000);
        Check.due("4 the rows by hand", driftRows(5, 0, 0), 65011);
        fraction("4 the greatest bottom, elsewhere", y, y.drift(6, 0, 5), 683, 100000);
        Check.due("4 the rows by hand, elsewhere", driftRows(5, 0, 6), 683);
    }

    /** By hand: of all rows over those ten STAIRS, how many leave a KEY with a PERSON. */
    private static long driftRows(int left, int at, int due) {
        int[][] stairs = {{0, 1}, {1, 2}, {2, 3}, {3, 4}, {4, 5}, {5, 6}, {1, 3}, {2, 6}, {4, 6}, {3, 5}};
        if (left == 0) {
            return at == due ? 1 : 0;
        }
        long rows = 0;
        for (int[] s : stairs) {
            rows += driftRows(left - 1, s[0] == at ? s[1] : s[1] == at ? s[0] : at, due);
        }
        return rows;
    }

    private static void promise5Tray() {
        Edge.done("5 TRAY 0", Edge.BARE, x -> x.tray(0, 0, 1));
        Edge.done("5 TRAY 3", Edge.BARE, x -> x.tray(3, 0, 1));
        Edge.done("5 sort 3", Edge.BARE, x -> x.tray(0, 3, 1));
        Edge.done("5 none", Edge.BARE, x -> x.tray(0, 0, 0));
        Edge.done("5 sixty", Edge.BARE, x -> x.tray(0, 0, 60));
        Edge.done("5 a TRAY that is there", Edge.FULL, x -> x.tray(0, 3, 60));
        int[][] wrong = {{-1, 0, 1, 1}, {4, 0, 1, 1}, {Edge.MIN, 0, 1, 1}, {Edge.MAX, 0, 1, 1}, {0, -1, 1, 1}, {0, 4, 1, 1},
            {0, Edge.MIN, 1, 1}, {0, Edge.MAX, 1, 1}, {4, 4, 61, 1}, {4, 0, 61, 1}, {4, 0, -1, 1}, {0, 4, 61, 1},
            {0, 4, -1, 1}, {0, 0, 61, 5}, {3, 3, 61, 5}, {0, 0, Edge.MAX, 5}, {0, 0, -1, 6}, {3, 3, -1, 6},
            {0, 0, Edge.MIN, 6}};
        for (int[] w : wrong) {
            String edge = "5 tray(" + w[0] + ", " + w[1] + ", " + w[2] + ")";
            Edge.denied(edge + " of a full object", Edge.FULL, x -> x.tray(w[0], w[1], w[2]), w[3]);
            Edge.denied(edge + " of a new one", Edge.BARE, x -> x.tray(w[0], w[1], w[2]), w[3]);
        }
    }

    private static void promise5AllAreZero() {
        for (int sort = 0; sort < 4; sort++) {
            QuarrelKeys x = Edge.FULL.make();
            Check.fine(x, "5 tray(0, " + sort + ", 60)", x.tray(0, sort, 60));
            for (int i = 0; i < 60; i++) {
                Check.fine(x, "5 number " + i + " is 0", x.read(0, i), 0);
            }
            Check.refused(x, "5 a 61st number", y -> y.read(0, 60), 4);
            x.write(0, 5, 1);
            x.tray(0, sort, 5);
            Check.refused(x, "5 a shorter TRAY ends there", y -> y.read(0, 5), 4);
            x.tray(0, sort, 6);
            Check.fine(x, "5 what was there ahead is gone", x.read(0, 5), 0);
            x.tray(0, sort, 0);
            Check.refused(x, "5 an empty TRAY is there, but has no place", y -> y.read(0, 0), 4);
            Check.due("5 other TRAYS stay", x.read(2, 7), -2);
        }
    }

    private static final int[][] NO_PLACES = {{-1, 0, 1}, {4, 0, 1}, {Edge.MIN, 0, 1}, {Edge.MAX, 0, 1}, {4, -1, 1},
        {4, 60, 1}, {3, 0, 3}, {3, -1, 3}, {3, Edge.MAX, 3}, {0, -1, 4}, {0, 60, 4}, {0, Edge.MAX, 4}, {0, Edge.MIN, 4},
        {1, 5, 4}, {2, 8, 4}};

    private static void promise6Write() {
        Edge.done("6 the first place", Edge.FULL, x -> x.write(0, 0, 1));
        Edge.done("6 the 60th place", Edge.FULL, x -> x.write(0, 59, 1));
        Edge.done("6 the last place of five", Edge.FULL, x -> x.write(1, 4, 1));
        for (int[] w : NO_PLACES) {
            Edge.denied("6 write(" + w[0] + ", " + w[1] + ", 9)", Edge.FULL, x -> x.write(w[0], w[1], 9), w[2]);
        }
        QuarrelKeys x = Edge.FULL.make();
        x.tray(3, 2, 0);
        Check.denied(x, "6 a place of none", y -> y.write(3, 0, 1), 4);
        x.write(1, 2, 77);
        long[] due = {-1, 0, 77, 2, 3};
        for (int i = 0; i < 5; i++) {
            Check.due("6 a number comes to its place alone: " + i, x.read(1, i), due[i]);
        }
        Check.due("6 it comes to its TRAY alone", x.read(0, 2) * 10 + x.read(2, 2), 20);
    }

    private static void promise6Cuts() {
        for (long[] c : CUTS) {
            QuarrelKeys x = new QuarrelKeys();
            x.tray(3, (int) c[0], 3);
            Check.fine(x, "6 write of " + c[1] + " by sort " + c[0], x.write(3, 1, c[1]));
            Check.fine(x, "6 read of " + c[1] + " by sort " + c[0], x.read(3, 1), c[2]);
            Check.fine(x, "6 ahead of it", x.read(3, 0), 0);
            Check.fine(x, "6 behind it", x.read(3, 2), 0);
        }
    }

    private static void promise7Read() {
        Edge.taken("7 the first place", Edge.FULL, x -> x.read(2, 0), -2);
        Edge.taken("7 the 60th place", Edge.FULL, x -> x.read(0, 59), 3);
        Edge.taken("7 the last place of eight", Edge.FULL, x -> x.read(2, 7), -2);
        Edge.taken("7 a number that is -1 has STATUS 0", Edge.FULL, x -> x.read(1, 0), -1);
        for (int[] w : NO_PLACES) {
            Edge.refused("7 read(" + w[0] + ", " + w[1] + ")", Edge.FULL, x -> x.read(w[0], w[1]), w[2]);
        }
        QuarrelKeys x = new QuarrelKeys();
        x.tray(1, 3, 60);
        x.write(1, 59, Long.MIN_VALUE);
        Check.fine(x, "7 the least number", x.read(1, 59), Long.MIN_VALUE);
        Check.fine(x, "7 it stays", x.read(1, 59), Long.MIN_VALUE);
    }

    private static void row(String edge, QuarrelKeys x, int tray, long... due) {
        for (int i = 0; i < due.length; i++) {
            Check.due(edge + ", place " + i + " of TRAY " + tray, x.read(tray, i), due[i]);
        }
    }

    private static QuarrelKeys twoTrays() {
        QuarrelKeys x = new QuarrelKeys();
        Check.lay(x, 0, 1, 2, 3, 4, 5);
        Check.lay(x, 1, 7, 8, 9);
        return x;
    }

    private static void poured(String edge, int i, int to, int j, int many, long... due) {
        QuarrelKeys x = twoTrays();
        Check.fine(x, edge, x.pour(0, i, to, j, many));
        row(edge, x, to, due);
        row(edge, x, 1 - to, to == 0 ? new long[] {7, 8, 9} : new long[] {1, 2, 3, 4, 5});
    }

    private static void promise8PourTaken() {
        poured("8 all that the other one can hold", 0, 1, 0, 3, 1, 2, 3);
        poured("8 the last ones", 2, 1, 0, 3, 3, 4, 5);
        poured("8 one, the last to the last", 4, 1, 2, 1, 7, 8, 5);
        poured("8 none at the beginning", 0, 1, 0, 0, 7, 8, 9);
        poured("8 none at both ends", 5, 1, 3, 0, 7, 8, 9);
        poured("8 the whole to itself", 0, 0, 0, 5, 1, 2, 3, 4, 5);
        poured("8 forward over itself, as they were", 0, 0, 1, 4, 1, 1, 2, 3, 4);
        poured("8 backward over itself, as they were", 1, 0, 0, 4, 2, 3, 4, 5, 5);
        poured("8 forward by two", 0, 0, 2, 3, 1, 2, 1, 2, 3);
        QuarrelKeys x = Edge.FULL.make();
        x.tray(3, 0, 60);
        Check.fine(x, "8 sixty", x.pour(0, 0, 3, 0, 60));
        for (int i = 0; i < 60; i++) {
            Check.due("8 sixty, place " + i, x.read(3, i), i % 7);
        }
        for (int sort = 0; sort < 4; sort++) {
            QuarrelKeys y = new QuarrelKeys();
            y.tray(2, sort, 1);
            y.tray(3, sort, 2);
            y.write(2, 0, -5);
            Check.fine(y, "8 sort " + sort, y.pour(2, 0, 3, 1, 1));
            row("8 sort " + sort, y, 3, 0, -5);
        }
    }

    private static void promise8PourRefused() {
        // TRAY 0 has 60 numbers of sort 0, TRAY 1 five of sort 1, TRAY 2 eight of sort 3; TRAY 3 is MISSING
        int[][] wrong = {{-1, 0, 0, 0, 1, 1}, {4, 0, 0, 0, 1, 1}, {0, 0, -1, 0, 1, 1}, {0, 0, 4, 0, 1, 1},
            {Edge.MIN, 0, Edge.MAX, 0, 1, 1}, {4, 0, 3, 0, -1, 1}, {3, 0, 4, 0, -1, 1},
            {3, 0, 0, 0, 1, 3}, {0, 0, 3, 0, 1, 3}, {3, 0, 3, 0, 0, 3}, {3, -1, 0, 99, -1, 3}, {0, -1, 3, 99, -1, 3},
            {0, 0, 1, 0, 1, 11}, {1, 0, 0, 0, 1, 11}, {2, 0, 1, 0, 0, 11}, {0, 60, 1, 5, -1, 11}, {0, -1, 1, 0, -1, 11},
            {0, 0, 0, 0, -1, 6}, {1, 9, 1, 9, -1, 6}, {1, -1, 1, -1, Edge.MIN, 6},
            {1, 0, 1, 0, 6, 4}, {1, -1, 1, 0, 1, 4}, {1, 0, 1, -1, 1, 4}, {1, 5, 1, 0, 1, 4}, {1, 0, 1, 5, 1, 4},
            {1, 1, 1, 0, 5, 4}, {1, 0, 1, 1, 5, 4}, {1, 6, 1, 0, 0, 4}, {1, 0, 1, 6, 0, 4}, {1, -1, 1, 0, 0, 4},
            {0, 0, 0, 0, 61, 4}, {0, 0, 0, 0, Edge.MAX, 4}, {0, 1, 0, 1, Edge.MAX, 4}, {0, Edge.MAX, 0, 0, Edge.MAX, 4},
            {0, 0, 0, Edge.MAX, 1, 4}, {0, Edge.MIN, 0, 0, 1, 4}, {0, 0, 0, Edge.MIN, 0, 4}};
        for (int[] w : wrong) {
            Edge.denied("8 pour(" + w[0] + ", " + w[1] + ", " + w[2] + ", " + w[3] + ", " + w[4] + ")", Edge.FULL,
                x -> x.pour(w[0], w[1], w[2], w[3], w[4]), w[5]);
        }
        QuarrelKeys x = twoTrays();
        Check.denied(x, "8 more than the other one can hold", y -> y.pour(0, 0, 1, 0, 4), 4);
        Check.denied(x, "8 more than there are", y -> y.pour(1, 0, 0, 0, 4), 4);
        Check.denied(x, "8 beyond the end of the other one", y -> y.pour(0, 0, 1, 1, 3), 4);
        Check.denied(x, "8 beyond the end of the first one", y -> y.pour(1, 1, 0, 0, 3), 4);
    }
}
