/** Promises 13 to 17: many, person, stair, likes, copyLives. */
public final class SightsTest {
    private static final String THREE = "cool 7;person a temper 4;person b temper 5;person c;stair a b;"
        + "stair c b grudge 2;like a b 8;like b c 1;swap a b;";

    public static void main(String[] args) {
        manyTellsTheQuarter();
        manyCountsWhatIsDone();
        personTells();
        stairTells();
        heatMustBeAboveCool();
        bothMustNotLose();
        likesTells();
        copyLivesCopies();
        Check.end("SightsTest");
    }

    private static void manyTellsTheQuarter() {
        QuarrelKeys x = Check.with(THREE);
        int[] due = {3, 2, 8, 7, 0, 0, 0, 4, 12, 2};
        for (int what = 0; what < due.length; what++) {
            Check.fine(x, "many(" + what + ")", x.many(what), due[what]);
        }
        for (int what : new int[] {-1, 10, Integer.MIN_VALUE, Integer.MAX_VALUE}) {
            Check.refused(x, "many(" + what + ")", y -> y.many(what), 5);
        }
    }

    private static void manyCountsWhatIsDone() {
        QuarrelKeys x = Check.with("cool 0;person a;person b;stair a b;", "quarrel 0;make 0;night 3;");
        x.quarrel(0);
        x.quarrel(0);
        x.makeUp(0);
        x.night(2);
        x.swap(0, 1);
        x.calm(0, 9);
        x.live(0);
        Check.due("nights", x.many(4), 5);
        Check.due("quarrels", x.many(5), 3);
        Check.due("makings up", x.many(6), 2);
        Check.due("grudges", x.many(9), 1);
    }

    private static void personTells() {
        QuarrelKeys x = Check.with(THREE);
        int[][] due = {{4, 1, 1, 8, 1}, {5, 0, 0, 5, 3}, {3, 2, 2, 5, 2}};
        for (int p = 0; p < 3; p++) {
            for (int what = 0; what < 5; what++) {
                Check.fine(x, "person(" + p + ", " + what + ")", x.person(p, what), due[p][what]);
            }
        }
        // a ring of three tells where one lives from who lives in his
        x.swap(0, 2);
        Check.due("lives", Check.lives(x), "201");
        Check.due("who lives in 0", x.person(0, 2), 1);
        Check.due("who lives in 1", x.person(1, 2), 2);
        Check.due("who lives in 2", x.person(2, 2), 0);
        int[][] wrong = {{-1, 0, 2}, {3, 0, 2}, {3, 9, 2}, {Integer.MIN_VALUE, 0, 2}, {0, -1, 5}, {0, 5, 5},
            {2, Integer.MAX_VALUE, 5}};
        for (int[] w : wrong) {
            Check.refused(x, "person(" + w[0] + ", " + w[1] + ")", y -> y.person(w[0], w[1]), w[2]);
        }
    }

    private static void stairTells() {
        QuarrelKeys x = Check.with(THREE);
        int[][] due = {{0, 1, 0, 9, 1, 0}, {2, 1, 2, 12, 1, 0}};
        for (int s = 0; s < 2; s++) {
            for (int what = 0; what < 6; what++) {
                Check.fine(x, "stair(" + s + ", " + what + ")", x.stair(s, what), due[s][what]);
            }
        }
        int[][] wrong = {{-1, 0, 2}, {2, 0, 2}, {2, 9, 2}, {Integer.MAX_VALUE, 0, 2}, {0, -1, 5}, {0, 6, 5},
            {1, Integer.MIN_VALUE, 5}};
        for (int[] w : wrong) {
            Check.refused(x, "stair(" + w[0] + ", " + w[1] + ")", y -> y.stair(w[0], w[1]), w[2]);
        }
    }

    private static void heatMustBeAboveCool() {
        String rest = "person a temper 4;person b temper 3;stair a b grudge 1;";
        Check.due("heat 9 above cool 8", Check.with("cool 8;" + rest).stair(0, 4), 1);
        Check.due("heat 9, cool 9", Check.with("cool 9;" + rest).stair(0, 4), 0);
        Check.due("heat 9", Check.with("cool 9;" + rest).stair(0, 3), 9);
        String hot = "cool 0;person a temper 9;person b temper 9;stair a b grudge ";
        Check.due("grudge 8", Check.with(hot + "8;").stair(0, 4), 1);
        Check.due("grudge 9", Check.with(hot + "9;").stair(0, 4), 0);
        Check.due("heat by grudge 9", Check.with(hot + "9;").stair(0, 3), 36);
    }

    private static void bothMustNotLose() {
        String rest = "person a;person b;swap a b;stair a b grudge ";
        Check.due("grudge 0", Check.with(rest + "0;").stair(0, 5), 0);
        Check.due("all alike", Check.with(rest + "1;").stair(0, 5), 1);
        Check.due("the first would lose", Check.with(rest + "1;like a b 6;").stair(0, 5), 0);
        Check.due("the second would lose", Check.with(rest + "1;like b a 6;").stair(0, 5), 0);
        Check.due("both would win", Check.with(rest + "1;like a b 4;like b b 6;").stair(0, 5), 1);
        Check.due("one would win, one would lose", Check.with(rest + "1;like a a 9;like b b 4;").stair(0, 5), 0);
    }

    private static void likesTells() {
        QuarrelKeys x = Check.with(THREE);
        int[] due = {5, 8, 5, 5, 5, 1, 5, 5, 5};
        for (int i = 0; i < 9; i++) {
            Check.fine(x, "likes(" + i / 3 + ", " + i % 3 + ")", x.likes(i / 3, i % 3), due[i]);
        }
        int[][] wrong = {{-1, 0}, {3, 0}, {0, -1}, {0, 3}, {Integer.MAX_VALUE, 0}, {0, Integer.MIN_VALUE}};
        for (int[] w : wrong) {
            Check.refused(x, "likes(" + w[0] + ", " + w[1] + ")", y -> y.likes(w[0], w[1]), 2);
        }
    }

    private static void copyLivesCopies() {
        QuarrelKeys x = Check.with(THREE);
        for (int sort = 0; sort < 4; sort++) {
            x.tray(1, sort, 4);
            x.write(1, 3, 77);
            Check.fine(x, "copyLives(1)", x.copyLives(1), 3);
            Check.due("0", x.read(1, 0), 1);
            Check.due("1", x.read(1, 1), 0);
            Check.due("2", x.read(1, 2), 2);
            Check.due("what stands behind", x.read(1, 3), 77);
        }
        x.tray(0, 0, 3);
        Check.fine(x, "copyLives of a tray just as long", x.copyLives(0), 3);
        x.tray(0, 0, 2);
        Check.refused(x, "copyLives of a tray too short", y -> y.copyLives(0), 4);
        Check.refused(x, "copyLives(2)", y -> y.copyLives(2), 3);
        Check.refused(x, "copyLives(-1)", y -> y.copyLives(-1), 1);
        Check.refused(x, "copyLives(4)", y -> y.copyLives(4), 1);
        QuarrelKeys nobody = new QuarrelKeys();
        nobody.tray(0, 0, 0);
        Check.fine(nobody, "copyLives of nobody", nobody.copyLives(0), 0);
    }
}
