/** Promises 27 to 38, boundary by boundary: rings, ROWS. */
public final class EdgesOfRowsTest {
    private static final String THREE = "person a;person b;person c;";
    private static final String FOUR = THREE + "person d;";
    private static final int[] NOBODIES = {-1, 7, 8, Edge.MIN, Edge.MAX};
    /** STAIRS of four, each way of going around told in another order. */
    private static final String[] STAIRS = {"stair a b;stair b c;stair c d;", "stair c d;stair b c;stair a b;",
        "stair a b;stair b c;stair c d;stair d a;", "stair a c;stair d b;stair b a;stair c d;", "stair a b;stair a c;stair a d;",
        "stair d c;stair d b;stair a d;", "stair a b;stair c d;", "stair b d;", "",
        "stair c d;stair b d;stair b c;stair a d;stair a c;stair a b;"};

    public static void main(String[] args) {
        promise27Ring();
        promise28RingAt();
        promise29And30();
        promise31Homeward();
        promise31And32TheFirst();
        promise32HomewardAt();
        promise31AskedAgain();
        promise33Toward();
        promise33And34Refused();
        promise33And34TheFirst();
        promise34TowardAt();
        promise35Ways();
        promise36Numbers();
        promise36Counts();
        promise36To38Refused();
        promise37FirstAt();
        promise36And37ByHand();
        promise38Ask();
        promise38Refused();
        Check.end("EdgesOfRowsTest");
    }

    private static void promise27Ring() {
        Edge.Maker all = Edge.with(Edge.SEVEN + "swap a b;swap b c;swap c d;swap d e;swap e f;swap f g;");
        Edge.Maker home = Edge.with(Edge.SEVEN);
        for (int p = 0; p < 7; p++) {
            int person = p;
            Edge.taken("27 the RING of all, " + p, all, x -> x.ring(person), 7);
            Edge.taken("27 HOME is a RING of one, " + p, home, x -> x.ring(person), 1);
        }
        Edge.taken("27 a RING of one alone", Edge.with("person a;"), x -> x.ring(0), 1);
        for (int p : NOBODIES) {
            Edge.refused("27 ring(" + p + ")", Edge.FULL, x -> x.ring(p), 2);
        }
        Edge.refused("27 a fourth of three", Edge.SOME, x -> x.ring(3), 2);
        Edge.refused("27 nobody", Edge.BARE, x -> x.ring(0), 2);
    }

    private static void promise28RingAt() {
        // a lives in b's, b in c's .. g in a's
        Edge.Maker all = Edge.with(Edge.SEVEN + "swap a b;swap b c;swap c d;swap d e;swap e f;swap f g;");
        for (int p = 0; p < 7; p++) {
            for (int i = 0; i < 7; i++) {
                int person = p;
                int k = i;
                Edge.taken("28 ringAt(" + p + ", " + i + ")", all, x -> x.ringAt(person, k), (p + i) % 7);
            }
            int last = p;
            Edge.refused("28 an eighth of seven", all, x -> x.ringAt(last, 7), 8);
        }
        Edge.Maker two = Edge.with(FOUR + "swap b d;");
        Edge.taken("28 he", two, x -> x.ringAt(3, 0), 3);
        Edge.taken("28 the last of two", two, x -> x.ringAt(3, 1), 1);
        Edge.refused("28 a third of two", two, x -> x.ringAt(3, 2), 8);
        Edge.taken("28 he who is HOME", two, x -> x.ringAt(0, 0), 0);
        Edge.refused("28 a second of one", two, x -> x.ringAt(0, 1), 8);
        for (int k : new int[] {-1, Edge.MIN, Edge.MAX}) {
            Edge.refused("28 ringAt(0, " + k + ")", Edge.FULL, x -> x.ringAt(0, k), 8);
        }
        for (int p : NOBODIES) {
            Edge.refused("28 ringAt(" + p + ", 0)", Edge.FULL, x -> x.ringAt(p, 0), 2);
            Edge.refused("28 ringAt(" + p + ", -1): 2 ahead of 8", Edge.FULL, x -> x.ringAt(p, -1), 2);
        }
        Edge.refused("28 nobody", Edge.BARE, x -> x.ringAt(0, 0), 2);
    }

    private static void rings(String text, int rings, int undo) {
        Edge.taken("29 rings() of " + text, Edge.with(text), x -> x.rings(), rings);
        Edge.taken("30 undo() of " + text, Edge.with(text), x -> x.undo(), undo);
    }

    private static void promise29And30() {
        rings("", 0, 0);
        rings("person a;", 1, 0);
        rings(Edge.SEVEN, 7, 0);
        rings(Edge.SEVEN + "swap a g;", 6, 1);
        rings(Edge.SEVEN + "swap a b;swap c d;swap e f;", 4, 3);
        rings(Edge.SEVEN + "swap a b;swap b c;swap c d;swap d e;swap e f;swap f g;", 1, 6);
        rings(Edge.SEVEN + "swap a b;swap b c;swap d e;swap e f;swap f g;", 2, 5);
        rings(Edge.SEVEN + "swap a b;swap a b;", 7, 0);
        // of any two: STAIRS do not count
        rings("person a;person b;swap a b;", 1, 1);
    }

    private static void promise31Homeward() {
        Edge.taken("31 of nobody", Edge.BARE, x -> x.homeward(), 0);
        Edge.taken("31 of one", Edge.with("person a;"), x -> x.homeward(), 0);
        Edge.taken("31 all HOME without STAIRS", Edge.with(Edge.SEVEN), x -> x.homeward(), 0);
        Edge.taken("31 all HOME", Edge.with(Edge.SEVEN + Edge.LINE), x -> x.homeward(), 0);
        Edge.taken("31 one STAIR", Edge.with(FOUR + "stair c d;swap c d;"), x -> x.homeward(), 1);
        Edge.taken("31 the longest ROW that there is", Edge.with(Edge.SEVEN + Edge.LINE + "swap a g;swap b f;swap c e;"),
            x -> x.homeward(), 21);
        Edge.taken("31 whatever HEAT, GRUDGE, LIKING is",
            Edge.with("cool 30;person a temper 0;person b temper 0;stair a b grudge 9;like a a 0;like b b 0;swap a b;"),
            x -> x.homeward(), 1);
        Edge.refused("31 by none: no STAIRS", Edge.with("person a;person b;swap a b;"), x -> x.homeward(), 8);
        Edge.refused("31 by none: STAIRS elsewhere", Edge.with(FOUR + "stair a b;stair c d;swap b c;"), x -> x.homeward(), 8);
        Edge.refused("31 by none: one is cut off", Edge.with(Edge.SEVEN + Edge.LINE.replace("stair f g;", "") + "swap a g;"),
            x -> x.homeward(), 8);
        Edge.taken("31 one who is HOME is cut off", Edge.with(Edge.SEVEN + Edge.LINE.replace("stair f g;", "") + "swap a b;"),
            x -> x.homeward(), 1);
    }

    private static int[][] stairsOf(QuarrelKeys x) {
        int[][] stairs = new int[x.many(1)][2];
        for (int s = 0; s < stairs.length; s++) {
            stairs[s][0] = x.stair(s, 0);
            stairs[s][1] = x.stair(s, 1);
        }
        return stairs;
    }

    private static int[] livesOf(QuarrelKeys x) {
        int[] lives = new int[x.many(0)];
        for (int p = 0; p < lives.length; p++) {
            lives[p] = x.person(p, 1);
        }
        return lives;
    }

    /** By hand: the ROW of that number, its STAIRS as digits, the first STAIR in front. */
    private static int[] rowOf(int number, int length, int stairs) {
        int[] row = new int[length];
        for (int i = length - 1; i >= 0; i--) {
            row[i] = number % stairs;
            number /= stairs;
        }
        return row;
    }

    private static int[] behind(int[] lives, int[][] stairs, int[] row) {
        int[] then = lives.clone();
        for (int s : row) {
            int kept = then[stairs[s][0]];
            then[stairs[s][0]] = then[stairs[s][1]];
            then[stairs[s][1]] = kept;
        }
        return then;
    }

    /** By hand: all ROWS of 0, 1, 2 .. STAIRS are tried, the first by STAIRS first; six are enough for four. */
    private static int[] shortest(int[] lives, int[][] stairs, int[] goal) {
        for (int length = 0; length <= (stairs.length == 0 ? 0 : 6); length++) {
            int rows = (int) Math.pow(stairs.length, length);
            for (int number = 0; number < rows; number++) {
                int[] row = rowOf(number, length, stairs.length);
                if (java.util.Arrays.equals(behind(lives, stairs, row), goal)) {
                    return row;
                }
            }
        }
        return null;
    }

    private static final String[] SWAPS = {"", "swap a b;", "swap b c;", "swap c d;", "swap a c;", "swap b d;", "swap a d;",
        "swap a b;swap c d;", "swap a c;swap b d;", "swap a d;swap b c;", "swap a b;swap b c;", "swap b c;swap a b;",
        "swap b c;swap c d;", "swap c d;swap b c;", "swap a b;swap b d;", "swap b d;swap a b;", "swap a c;swap c d;",
        "swap c d;swap a c;", "swap a b;swap b c;swap c d;", "swap c d;swap b c;swap a b;", "swap a c;swap c b;swap b d;",
        "swap b d;swap c b;swap a c;", "swap a b;swap b d;swap d c;", "swap d c;swap b d;swap a b;"};

    private static void promise31And32TheFirst() {
        int[] home = {0, 1, 2, 3};
        for (String stairs : STAIRS) {
            QuarrelKeys x = new QuarrelKeys();
            for (String swaps : SWAPS) {
                String text = FOUR + stairs + swaps;
                Check.quarter(x, text);
                int[] row = shortest(livesOf(x), stairsOf(x), home);
                if (row == null) {
                    Check.refused(x, "31 homeward() of " + text, y -> y.homeward(), 8);
                    Check.refused(x, "32 homewardAt(0) of " + text, y -> y.homewardAt(0), 8);
                    continue;
                }
                Check.fine(x, "31 homeward() of " + text, x.homeward(), row.length);
                for (int k = 0; k < row.length; k++) {
                    Check.fine(x, "32 homewardAt(" + k + ") of " + text, x.homewardAt(k), row[k]);
                }
                Check.refused(x, "32 no such STAIR of " + text, y -> y.homewardAt(row.length), 8);
            }
        }
    }

    private static void promise32HomewardAt() {
        Edge.Maker longest = Edge.with(Edge.SEVEN + Edge.LINE + "swap a g;swap b f;swap c e;");
        Edge.taken("32 the first", longest, x -> x.homewardAt(0), 0);
        Edge.taken("32 the 21st", longest, x -> x.homewardAt(20), 0);
        Edge.refused("32 a 22nd of 21", longest, x -> x.homewardAt(21), 8);
        Edge.refused("32 one of none of nobody", Edge.BARE, x -> x.homewardAt(0), 8);
        Edge.refused("32 one of none", Edge.with(Edge.SEVEN + Edge.LINE), x -> x.homewardAt(0), 8);
        Edge.refused("32 by none", Edge.with("person a;person b;swap a b;"), x -> x.homewardAt(0), 8);
        for (int k : new int[] {-1, 21, 23, 24, 25, Edge.MIN, Edge.MAX}) {
            Edge.refused("32 homewardAt(" + k + ")", longest, x -> x.homewardAt(k), 8);
        }
    }

    /** The STAIRS may be as they were at the call ahead, or not. */
    private static void promise31AskedAgain() {
        QuarrelKeys x = Check.with(Edge.FULL_TEXT);
        int ten = x.homeward();
        Check.fine(x, "31 ten STAIRS, asked again", x.homeward(), ten);
        Check.fine(x, "32 ten STAIRS, asked for the last", Math.min(0, x.homewardAt(ten - 1)), 0);
        Check.refused(x, "32 ten STAIRS, asked for one beyond", y -> y.homewardAt(ten), 8);
        x.swap(2, 3);
        Check.fine(x, "31 ten STAIRS, other KEYS: one more or one less", Math.abs(x.homeward() - ten), 1);
        Check.quarter(x, "person a;person b;person c;stair a b;stair b c;swap a c;");
        Check.fine(x, "31 fewer PEOPLE and STAIRS", x.homeward(), 3);
        x.build(0, 2);
        Check.fine(x, "31 a STAIR more", x.homeward(), 1);
        Check.fine(x, "32 a STAIR more", x.homewardAt(0), 2);
        x.come();
        Check.fine(x, "31 a PERSON more", x.homeward(), 1);
        Check.quarter(x, "person a;person b;person c;person d;stair a b;stair b c;stair a d;swap a c;");
        Check.fine(x, "31 as many, but one STAIR leads elsewhere", x.homeward(), 3);
        Check.quarter(x, "person a;person b;person c;person d;stair a b;stair b c;stair c d;swap a c;");
        Check.fine(x, "31 as many, but its first end is another", x.homeward(), 3);
        Check.quarter(x, "person a;person b;person c;person d;stair a b;stair b c;stair c a;swap a c;");
        Check.fine(x, "31 as many, but its second end is another", x.homeward(), 1);
    }

    private static Edge.Maker tray(String text, int sort, long... numbers) {
        return () -> {
            QuarrelKeys x = Check.with(text);
            x.tray(2, sort, numbers.length);
            for (int i = 0; i < numbers.length; i++) {
                x.write(2, i, numbers[i]);
            }
            x.many(0);
            return x;
        };
    }

    private static void promise33Toward() {
        String line = THREE + "stair a b;stair b c;";
        for (int sort = 0; sort < 4; sort++) {
            Edge.taken("33 just as many numbers, sort " + sort, tray(line, sort, 1, 0, 2), x -> x.toward(2), 1);
            Edge.taken("33 where they live, sort " + sort, tray(line, sort, 0, 1, 2), x -> x.toward(2), 0);
            Edge.taken("33 what stands behind does not count, sort " + sort, tray(line, sort, 2, 1, 0, 0, -1, 99),
                x -> x.toward(2), 3);
        }
        Edge.taken("33 60 numbers", tray(line, 0, java.util.Arrays.copyOf(new long[] {1, 2, 0}, 60)), x -> x.toward(2), 2);
        Edge.taken("33 nobody, no numbers", tray("", 0), x -> x.toward(2), 0);
        Edge.taken("33 nobody, a number that could not be", tray("", 0, -1), x -> x.toward(2), 0);
        Edge.taken("33 all turned about", tray(Edge.SEVEN + Edge.LINE, 3, 6, 5, 4, 3, 2, 1, 0), x -> x.toward(2), 21);
        Edge.taken("33 from all turned about to all HOME",
            tray(Edge.SEVEN + Edge.LINE + "swap a g;swap b f;swap c e;", 3, 0, 1, 2, 3, 4, 5, 6), x -> x.toward(2), 21);
    }

    private static void towardRefused(String edge, Edge.Maker maker, int tray, int status) {
        Edge.refused("33 toward: " + edge, maker, x -> x.toward(tray), status);
        Edge.refused("34 towardAt: " + edge, maker, x -> x.towardAt(tray, 0), status);
        Edge.refused("34 towardAt -1: " + edge, maker, x -> x.towardAt(tray, -1), status);
    }

    private static void promise33And34Refused() {
        for (int t : new int[] {-1, 4, Edge.MIN, Edge.MAX}) {
            towardRefused("TRAY " + t, Edge.FULL, t, 1);
        }
        towardRefused("a TRAY that is MISSING", Edge.FULL, 3, 3);
        towardRefused("a TRAY that is MISSING, nobody", Edge.BARE, 3, 3);
        towardRefused("seven by five numbers", Edge.FULL, 1, 4);
        String line = THREE + "stair a b;stair b c;";
        towardRefused("three by two numbers", tray(line, 3, 0, 1), 2, 4);
        towardRefused("three by none", tray(line, 3), 2, 4);
        towardRefused("4 ahead of 5", tray(line, 3, 9, 9), 2, 4);
        long[][] wrong = {{0, 1, 3}, {3, 1, 0}, {-1, 1, 2}, {0, 1, -1}, {0, 0, 0}, {0, 1, 1}, {1, 2, 1}, {2, 1, 2},
            {Long.MAX_VALUE, 0, 1}, {Long.MIN_VALUE, 1, 2}, {0, 1L << 32 | 1, 2}, {0, 1, 1L << 32 | 2}, {7, 1, 2}};
        for (long[] w : wrong) {
            towardRefused("a number that can't be: " + java.util.Arrays.toString(w), tray(line, 3, w), 2, 5);
        }
        towardRefused("5 ahead of 8", tray(THREE, 3, 1, 1, 0), 2, 5);
        towardRefused("by none: no STAIRS", tray(THREE, 3, 1, 0, 2), 2, 8);
        towardRefused("by none: STAIRS elsewhere", tray(THREE + "stair a b;", 3, 0, 2, 1), 2, 8);
        towardRefused("by none though all are HOME", tray(FOUR + "stair a b;stair c d;", 3, 2, 1, 0, 3), 2, 8);
        Edge.taken("33 where they live, though by none to HOME", tray(THREE + "swap b c;", 3, 0, 2, 1), x -> x.toward(2), 0);
        // cut by the TRAY's sort ahead of that: 256 is 0 by 8 bits
        Edge.taken("33 what is written is cut", tray(line, 0, 256, 257, 258), x -> x.toward(2), 0);
    }

    private static void promise33And34TheFirst() {
        for (String stairs : STAIRS) {
            QuarrelKeys x = new QuarrelKeys();
            for (int from = 0; from < SWAPS.length; from += 5) {
                for (String to : SWAPS) {
                    String text = FOUR + stairs + SWAPS[from];
                    Check.quarter(x, FOUR + to);
                    x.tray(0, 0, 4);
                    x.copyLives(0);
                    int[] goal = livesOf(x);
                    Check.quarter(x, text);
                    int[] row = shortest(livesOf(x), stairsOf(x), goal);
                    String edge = text + " to " + to;
                    if (row == null) {
                        Check.due("33 toward(0) of " + edge, x.toward(0), -1);
                        Check.due("33 toward(0), STATUS of " + edge, x.status(), 8);
                        continue;
                    }
                    Check.fine(x, "33 toward(0) of " + edge, x.toward(0), row.length);
                    for (int k = 0; k < row.length; k++) {
                        Check.fine(x, "34 towardAt(0, " + k + ") of " + edge, x.towardAt(0, k), row[k]);
                    }
                }
            }
        }
    }

    private static void promise34TowardAt() {
        Edge.Maker longest = tray(Edge.SEVEN + Edge.LINE, 3, 6, 5, 4, 3, 2, 1, 0);
        Edge.taken("34 the first", longest, x -> x.towardAt(2, 0), 0);
        Edge.taken("34 the 21st", longest, x -> x.towardAt(2, 20), 0);
        for (int k : new int[] {-1, 21, 24, Edge.MIN, Edge.MAX}) {
            Edge.refused("34 towardAt(2, " + k + ")", longest, x -> x.towardAt(2, k), 8);
        }
        Edge.refused("34 one of none", tray(THREE + "stair a b;", 3, 0, 1, 2), x -> x.towardAt(2, 0), 8);
        Edge.refused("34 one of none of nobody", tray("", 3), x -> x.towardAt(2, 0), 8);
    }

    private static void promise35Ways() {
        Edge.taken("35 nobody", Edge.BARE, x -> x.ways(), 1);
        Edge.taken("35 one", Edge.with("person a;"), x -> x.ways(), 1);
        Edge.taken("35 seven without STAIRS", Edge.with(Edge.SEVEN), x -> x.ways(), 1);
        Edge.taken("35 one STAIR", Edge.with(Edge.SEVEN + "stair f g;"), x -> x.ways(), 2);
        Edge.taken("35 six STAIRS that join all", Edge.with(Edge.SEVEN + Edge.LINE), x -> x.ways(), 5040);
        Edge.taken("35 ten STAIRS", Edge.with(Edge.FULL_TEXT), x -> x.ways(), 5040);
        Edge.taken("35 ten STAIRS of five", Edge.with(Edge.SEVEN + "stair a b;stair a c;stair a d;stair a e;stair b c;stair b d;"
            + "stair b e;stair c d;stair c e;stair d e;"), x -> x.ways(), 120);
        Edge.taken("35 three and four", Edge.with(Edge.SEVEN + "stair a c;stair c e;stair b d;stair d f;stair f g;"),
            x -> x.ways(), 6 * 24);
        Edge.taken("35 where all live does not count", Edge.with(Edge.SEVEN + "stair a b;swap a g;swap b c;"), x -> x.ways(), 2);
        QuarrelKeys x = Check.with(THREE);
        x.build(0, 2);
        Check.fine(x, "35 a STAIR more", x.ways(), 2);
        x.come();
        x.build(3, 0);
        Check.fine(x, "35 a PERSON more", x.ways(), 6);
    }

    private static void promise36Numbers() {
        String two = "person a;person b;stair a b;";
        Edge.taken("36 no twos of a TRAY without numbers", tray(two, 0), x -> x.fits(2, 0, 0), 1);
        Edge.taken("36 one two of two numbers", tray(two, 0, 0, 0), x -> x.fits(2, 1, 0), 1);
        Edge.taken("36 20 twos of 40 numbers", tray(two, 0, new long[40]), x -> x.fits(2, 20, 0), 1);
        Edge.taken("36 20 twos of 60 numbers", tray(two, 0, new long[60]), x -> x.fits(2, 20, 5), 0);
        Edge.taken("36 k 5", tray(two, 0), x -> x.fits(2, 0, 5), 1);
        Edge.taken("36 the greatest PERSON and HOUSE", tray(Edge.SEVEN, 0, 6, 6), x -> x.fits(2, 1, 0), 1);
        Edge.taken("36 the 20th two counts", tray(two, 0, twentieth(1)), x -> x.fits(2, 20, 0), 0);
        Edge.taken("36 a 21st does not", tray(two, 0, twentyFirst()), x -> x.fits(2, 20, 0), 1);
        Edge.taken("36 numbers behind the twos may be any", tray(two, 3, 0, 0, -1, Long.MAX_VALUE), x -> x.fits(2, 1, 0), 1);
        for (int sort = 0; sort < 4; sort++) {
            Edge.taken("36 sort " + sort, tray(two, sort, 0, 1), x -> x.fits(2, 1, 1), 1);
        }
    }

    private static long[] twentieth(long house) {
        long[] numbers = new long[60];
        numbers[39] = house;
        return numbers;
    }

    private static long[] twentyFirst() {
        long[] numbers = new long[60];
        numbers[41] = 1;
        return numbers;
    }

    private static void promise36Counts() {
        Edge.taken("36 k 0, where he lives", tray(THREE + "swap a b;", 0, 0, 1), x -> x.fits(2, 1, 0), 1);
        Edge.taken("36 k 0, where he does not live", tray(THREE + "swap a b;", 0, 0, 0), x -> x.fits(2, 1, 0), 0);
        Edge.taken("36 k 1 without STAIRS", tray(THREE, 0), x -> x.fits(2, 0, 1), 0);
        Edge.taken("36 k 5 of nobody", tray("", 0), x -> x.fits(2, 0, 5), 0);
        Edge.taken("36 k 0 of nobody", tray("", 0), x -> x.fits(2, 0, 0), 1);
        Edge.taken("36 all ROWS of five of ten STAIRS", tray(Edge.FULL_TEXT, 0), x -> x.fits(2, 0, 5), 100000);
        Edge.taken("36 all ROWS of four of ten STAIRS", tray(Edge.FULL_TEXT, 0), x -> x.fits(2, 0, 4), 10000);
        Edge.taken("36 one in two HOUSES", tray(THREE + "stair a b;", 0, 0, 0, 0, 1), x -> x.fits(2, 2, 1), 0);
        Edge.taken("36 two in one HOUSE", tray(THREE + "stair a b;", 0, 0, 0, 1, 0), x -> x.fits(2, 2, 1), 0);
        Edge.taken("36 the same two twice", tray(THREE + "stair a b;", 0, 0, 1, 0, 1), x -> x.fits(2, 2, 1), 1);
        // as many as a ROW can bring where they are told: two by each STAIR
        String apart = Edge.SEVEN + "stair a b;stair c d;stair e f;stair f g;";
        Edge.taken("36 six told, three STAIRS in any order", tray(apart, 0, 0, 1, 1, 0, 2, 3, 3, 2, 4, 5, 5, 4), x -> x.fits(2, 6, 3), 6);
        Edge.taken("36 seven told, four STAIRS, two of them in order", tray(apart, 0, 0, 1, 1, 0, 2, 3, 3, 2, 4, 5, 5, 6, 6, 4),
            x -> x.fits(2, 7, 4), 12);
        Edge.taken("36 six told, two STAIRS", tray(apart, 0, 0, 1, 1, 0, 2, 3, 3, 2, 4, 5, 5, 4), x -> x.fits(2, 6, 2), 0);
        Edge.taken("36 whatever HEAT, GRUDGE, LIKING is",
            tray("cool 30;person a temper 0;person b;stair a b grudge 9;like a b 0;", 0, 0, 1), x -> x.fits(2, 1, 3), 1);
    }

    private static void rowsRefused(String edge, Edge.Maker maker, int tray, int n, int k, int status) {
        Edge.refused("36 fits: " + edge, maker, x -> x.fits(tray, n, k), status);
        Edge.refused("37 firstAt: " + edge, maker, x -> x.firstAt(tray, n, k, 0), status);
        Edge.refused("37 firstAt -1: " + edge, maker, x -> x.firstAt(tray, n, k, -1), status);
        Edge.refused("38 ask: " + edge, maker, x -> x.ask(tray, n, k), status);
    }

    private static void promise36To38Refused() {
        for (int t : new int[] {-1, 4, Edge.MIN, Edge.MAX}) {
            rowsRefused("TRAY " + t, Edge.FULL, t, 1, 1, 1);
            rowsRefused("1 ahead of all, TRAY " + t, Edge.FULL, t, 21, 6, 1);
        }
        rowsRefused("a TRAY that is MISSING", Edge.FULL, 3, 0, 0, 3);
        rowsRefused("3 ahead of 4 and 5", Edge.FULL, 3, 21, 6, 3);
        rowsRefused("3 ahead of 5", Edge.BARE, 0, -1, -1, 3);
        String two = "person a;person b;stair a b;";
        rowsRefused("one two of one number", tray(two, 0, 0), 2, 1, 1, 4);
        rowsRefused("one two of none", tray(two, 0), 2, 1, 1, 4);
        rowsRefused("20 twos of 39 numbers", tray(two, 0, new long[39]), 2, 20, 1, 4);
        rowsRefused("4 ahead of 5: 21 twos of 41 numbers", tray(two, 0, new long[41]), 2, 21, 1, 4);
        rowsRefused("4 ahead of 5: k 6", tray(two, 0, 0), 2, 1, 6, 4);
        rowsRefused("4 ahead of 5: a number that can't be", tray(two, 0, 9, 9, 9), 2, 2, 1, 4);
        rowsRefused("31 twos of 60 numbers", tray(two, 0, new long[60]), 2, 31, 1, 4);
        rowsRefused("as many twos as can be told", tray(two, 0, new long[60]), 2, Edge.MAX, 1, 4);
        rowsRefused("twos that would wrap around", tray(two, 0, new long[60]), 2, 1 << 30, 1, 4);
        rowsRefused("twos that would wrap around to none", tray(two, 0, new long[60]), 2, (1 << 30) + 1, 1, 4);
        rowsRefused("21 twos of 42 numbers", tray(two, 0, new long[42]), 2, 21, 1, 5);
        rowsRefused("30 twos of 60 numbers", tray(two, 0, new long[60]), 2, 30, 1, 5);
        rowsRefused("n -1", tray(two, 0, 0, 0), 2, -1, 1, 5);
        rowsRefused("n -1 of no numbers", tray(two, 0), 2, -1, 1, 5);
        rowsRefused("the least n", tray(two, 0, 0, 0), 2, Edge.MIN, 1, 5);
        for (int k : new int[] {-1, 6, Edge.MIN, Edge.MAX}) {
            rowsRefused("k " + k, tray(two, 0, 0, 0), 2, 1, k, 5);
            rowsRefused("k " + k + ", no twos", tray(two, 0), 2, 0, k, 5);
        }
        long[][] wrong = {{2, 0}, {0, 2}, {-1, 0}, {0, -1}, {7, 0}, {0, 7}, {Long.MIN_VALUE, 0}, {0, Long.MAX_VALUE}, {1L << 32, 0},
            {0, 1L << 32}};
        for (long[] w : wrong) {
            rowsRefused("a number that can't be: " + w[0] + ", " + w[1], tray(two, 3, w), 2, 1, 1, 5);
            rowsRefused("a second two that can't be: " + w[0] + ", " + w[1], tray(two, 3, 0, 0, w[0], w[1]), 2, 2, 1, 5);
            rowsRefused("5 behind a two that no ROW fits: " + w[0] + ", " + w[1], tray(two, 3, 0, 0, 0, 1, w[0], w[1]), 2, 3, 1, 5);
        }
        rowsRefused("one of nobody", tray("", 0, 0, 0), 2, 1, 0, 5);
    }

    private static void promise37FirstAt() {
        Edge.Maker ten = tray(Edge.FULL_TEXT, 0);
        Edge.taken("37 the first of five", ten, x -> x.firstAt(2, 0, 5, 0), 0);
        Edge.taken("37 the last of five", ten, x -> x.firstAt(2, 0, 5, 4), 0);
        Edge.refused("37 a sixth of five", ten, x -> x.firstAt(2, 0, 5, 5), 8);
        Edge.taken("37 the one of one", ten, x -> x.firstAt(2, 0, 1, 0), 0);
        Edge.refused("37 a second of one", ten, x -> x.firstAt(2, 0, 1, 1), 8);
        Edge.refused("37 one of none", ten, x -> x.firstAt(2, 0, 0, 0), 8);
        for (int place : new int[] {-1, 5, Edge.MIN, Edge.MAX}) {
            Edge.refused("37 place " + place, ten, x -> x.firstAt(2, 0, 5, place), 8);
        }
        Edge.refused("37 there is none", tray(THREE + "stair a b;", 0, 2, 0), x -> x.firstAt(2, 1, 5, 0), 8);
        Edge.refused("37 there is none without STAIRS", tray(THREE, 0), x -> x.firstAt(2, 0, 1, 0), 8);
        Edge.refused("37 there is none: one in two HOUSES", tray(THREE + "stair a b;", 0, 0, 0, 0, 1), x -> x.firstAt(2, 2, 1, 0), 8);
        // of three STAIRS the last one alone
        Edge.taken("37 the last STAIR", tray(THREE + "stair a b;stair b c;stair a c;", 0, 0, 2), x -> x.firstAt(2, 1, 1, 0), 2);
    }

    /** By hand: how many ROWS of k fit, and the first of them. */
    private static void promise36And37ByHand() {
        int[][][] twos = {{}, {{0, 0}}, {{0, 3}}, {{1, 2}}, {{3, 0}, {0, 3}}, {{0, 1}, {1, 2}, {2, 3}}, {{2, 2}, {2, 2}}, {{1, 0}, {1, 3}},
            {{0, 2}, {1, 2}}};
        for (String stairs : new String[] {STAIRS[1], STAIRS[3], STAIRS[5], STAIRS[6]}) {
            for (int[][] told : twos) {
                QuarrelKeys x = Check.with(FOUR + stairs + "swap a c;");
                x.tray(0, 0, 2 * told.length);
                for (int i = 0; i < told.length; i++) {
                    x.write(0, 2 * i, told[i][0]);
                    x.write(0, 2 * i + 1, told[i][1]);
                }
                for (int k = 0; k <= 5; k++) {
                    byHand(x, told, k, stairs);
                }
            }
        }
    }

    private static boolean fit(int[] lives, int[][] told) {
        boolean fit = true;
        for (int[] two : told) {
            fit = fit && lives[two[0]] == two[1];
        }
        return fit;
    }

    private static void byHand(QuarrelKeys x, int[][] told, int k, String text) {
        int[][] stairs = stairsOf(x);
        int[] lives = livesOf(x);
        int fits = 0;
        int[] first = null;
        int[][] tally = new int[4][4];
        for (int number = 0; number < (int) Math.pow(stairs.length, k); number++) {
            int[] row = rowOf(number, k, stairs.length);
            int[] then = behind(lives, stairs, row);
            if (fit(then, told)) {
                first = fits == 0 ? row : first;
                fits++;
                for (int p = 0; p < 4; p++) {
                    tally[p][then[p]]++;
                }
            }
        }
        String edge = text + ", " + java.util.Arrays.deepToString(told) + ", k " + k;
        int n = told.length;
        Check.fine(x, "36 fits of " + edge, x.fits(0, n, k), fits);
        for (int place = 0; place < k; place++) {
            Check.due("37 firstAt(.., " + place + ") of " + edge, x.firstAt(0, n, k, place), first == null ? -1 : first[place]);
            Check.due("37 STATUS of " + edge, x.status(), first == null ? 8 : 0);
        }
        int asked = -1;
        int fewest = fits;
        for (int p = 0; p < 4; p++) {
            int most = java.util.Arrays.stream(tally[p]).max().getAsInt();
            asked = most < fewest ? p : asked;
            fewest = Math.min(fewest, most);
        }
        Check.due("38 ask of " + edge, x.ask(0, n, k), asked);
        Check.due("38 STATUS of " + edge, x.status(), asked < 0 ? 8 : 0);
    }

    private static void promise38Ask() {
        Edge.taken("38 of several the first", tray(THREE + "stair a b;stair b c;stair a c;", 0), x -> x.ask(2, 0, 1), 0);
        Edge.taken("38 the last one alone", tray(FOUR + "stair d a;stair d b;stair d c;", 0), x -> x.ask(2, 0, 1), 3);
        Edge.taken("38 the first one is the best", tray(FOUR + "stair a d;stair a b;stair a c;", 0), x -> x.ask(2, 0, 1), 0);
        // d's HOUSE is told: he is not asked
        Edge.taken("38 one whose HOUSE is told parts nothing", tray(FOUR + "stair d a;stair a b;stair b c;stair a c;", 0, 3, 3),
            x -> x.ask(2, 1, 1), 0);
        Edge.taken("38 of ten STAIRS", tray(Edge.SEVEN + Edge.LINE + "stair g a;stair a c;stair a d;stair a e;", 0),
            x -> x.ask(2, 0, 1), 0);
    }

    private static void promise38Refused() {
        Edge.refused("38 no ROW fits", tray(THREE + "stair a b;", 0, 2, 0), x -> x.ask(2, 1, 3), 8);
        Edge.refused("38 no ROW fits: one in two HOUSES", tray(THREE + "stair a b;", 0, 0, 0, 0, 1), x -> x.ask(2, 2, 2), 8);
        Edge.refused("38 no ROW without STAIRS", tray(THREE, 0), x -> x.ask(2, 0, 1), 8);
        Edge.refused("38 one ROW of none", tray(THREE + "stair a b;stair b c;", 0), x -> x.ask(2, 0, 0), 8);
        Edge.refused("38 one ROW", tray(THREE + "stair a b;", 0), x -> x.ask(2, 0, 5), 8);
        Edge.refused("38 two ROWS, all live alike", tray(FOUR + "stair a b;stair c d;", 0, 0, 0), x -> x.ask(2, 1, 2), 8);
        Edge.refused("38 all HOUSES are told", tray(THREE + "stair a b;stair b c;", 0, 0, 0, 1, 1, 2, 2), x -> x.ask(2, 3, 2), 8);
        Edge.refused("38 nobody", tray("", 0), x -> x.ask(2, 0, 0), 8);
        Edge.refused("38 nobody, no STAIRS", tray("", 0), x -> x.ask(2, 0, 3), 8);
    }
}
