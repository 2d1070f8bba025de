/** Promises 13 to 17, boundary by boundary: many, person, stair, likes, copyLives. */
public final class EdgesOfSightsTest {
    private static final String TEN = "stair a b grudge 9;stair a c grudge 9;stair a d grudge 9;stair a e grudge 9;"
        + "stair a f grudge 9;stair a g grudge 9;stair b c grudge 9;stair b d grudge 9;stair b e grudge 9;"
        + "stair b g grudge 9;";
    private static final int[] OUTSIDE = {-1, Edge.MIN, Edge.MAX};

    public static void main(String[] args) {
        promise13Least();
        promise13Greatest();
        promise13Counts();
        promise13Refused();
        promise14Person();
        promise14Refused();
        promise15Stair();
        promise15Heat();
        promise15CanQuarrel();
        promise15CanMakeUp();
        promise15Refused();
        promise16Likes();
        promise17CopyLives();
        Check.end("EdgesOfSightsTest");
    }

    private static void promise13Least() {
        int[] due = {2, 1, 0, 0, 0, 0, 0, 0, 0, 0};
        Edge.Maker least = Edge.with("odds 0;cool 0;person a temper 0;person b temper 0;stair a b grudge 0;swap a b;");
        for (int w = 0; w < 10; w++) {
            int what = w;
            Edge.taken("13 the least many(" + w + ")", least, x -> x.many(what), due[w]);
        }
        Edge.taken("13 nobody is HOME where nobody is", Edge.BARE, x -> x.many(7), 0);
        Edge.taken("13 no PEOPLE", Edge.BARE, x -> x.many(0), 0);
        Edge.taken("13 no STAIRS", Edge.BARE, x -> x.many(1), 0);
    }

    private static void promise13Greatest() {
        StringBuilder text = new StringBuilder("odds 16;cool 30;");
        for (char name = 'a'; name <= 'g'; name++) {
            text.append("person ").append(name).append(" temper 9;");
        }
        Edge.Maker greatest = Edge.with(text + TEN);
        int[] due = {7, 10, 16, 30, 0, 0, 0, 127, 63, 90};
        for (int w = 0; w < 10; w++) {
            int what = w;
            Edge.taken("13 the greatest many(" + w + ")", greatest, x -> x.many(what), due[w]);
        }
        QuarrelKeys x = new QuarrelKeys();
        for (int i = 0; i < 101; i++) {
            Check.fine(x, "13 nights of nobody", x.night(99), 0);
        }
        Check.fine(x, "13 NIGHT 9,999", x.many(4), 9999);
    }

    private static void promise13Counts() {
        QuarrelKeys x = Check.with("cool 0;" + Edge.SEVEN + Edge.LINE);
        for (int i = 1; i <= 9; i++) {
            x.quarrel(0);
            Check.fine(x, "13 QUARRELS", x.many(5), i);
            Check.fine(x, "13 MAKINGS UP stay", x.many(6), 0);
        }
        x.quarrel(0);
        Check.fine(x, "13 one that can't be does not count", x.many(5), 9);
        for (int i = 1; i <= 9; i++) {
            x.makeUp(0);
            Check.fine(x, "13 MAKINGS UP", x.many(6), i);
            Check.fine(x, "13 QUARRELS stay", x.many(5), 9);
        }
        x.makeUp(0);
        Check.fine(x, "13 one that can't be made up does not count", x.many(6), 9);
        x.swap(0, 6);
        Check.fine(x, "13 the set without the first and the last", x.many(7), 0b0111110);
        x.swap(1, 2);
        Check.fine(x, "13 the set of those in the middle", x.many(7), 0b0111000);
        x.swap(0, 6);
        Check.fine(x, "13 a swap is no QUARREL", x.many(5) * 100 + x.many(6), 909);
        Check.fine(x, "13 the set with both ends", x.many(7), 0b1111001);
    }

    private static void promise13Refused() {
        for (int what : new int[] {-1, 10, Edge.MIN, Edge.MAX}) {
            Edge.refused("13 many(" + what + ")", Edge.FULL, x -> x.many(what), 5);
            Edge.refused("13 many(" + what + ") of nobody", Edge.BARE, x -> x.many(what), 5);
        }
    }

    private static void promise14Person() {
        QuarrelKeys x = Check.with("person a temper 0;person b temper 9;person c;stair a b;swap a b;swap b c;like a b 0;like b c 9;");
        int[][] due = {{0, 1, 2, 0, 1}, {9, 2, 0, 9, 1}, {3, 0, 1, 5, 0}};
        for (int p = 0; p < 3; p++) {
            for (int what = 0; what < 5; what++) {
                Check.fine(x, "14 person(" + p + ", " + what + ")", x.person(p, what), due[p][what]);
            }
        }
        QuarrelKeys all = Check.with(Edge.SEVEN + TEN);
        int[] stairs = {0b0000111111, 0b1111000001, 0b0001000010, 0b0010000100, 0b0100001000, 0b0000010000, 0b1000100000};
        for (int p = 0; p < 7; p++) {
            Check.fine(all, "14 the STAIRS of " + p, all.person(p, 4), stairs[p]);
        }
        all.swap(0, 6);
        Check.fine(all, "14 where the last one lives", all.person(6, 1), 0);
        Check.fine(all, "14 who lives in the last one's", all.person(6, 2), 0);
        Check.fine(all, "14 who lives in the first one's", all.person(0, 2), 6);
    }

    private static void promise14Refused() {
        for (int p : new int[] {-1, 7, 8, Edge.MIN, Edge.MAX}) {
            Edge.refused("14 person(" + p + ", 0)", Edge.FULL, x -> x.person(p, 0), 2);
            Edge.refused("14 person(" + p + ", 5): 2 ahead of 5", Edge.FULL, x -> x.person(p, 5), 2);
        }
        Edge.refused("14 a fourth of three", Edge.SOME, x -> x.person(3, 0), 2);
        Edge.refused("14 nobody", Edge.BARE, x -> x.person(0, 0), 2);
        Edge.refused("14 nobody, nothing", Edge.BARE, x -> x.person(0, -1), 2);
        for (int what : new int[] {-1, 5, Edge.MIN, Edge.MAX}) {
            Edge.refused("14 person(0, " + what + ")", Edge.FULL, x -> x.person(0, what), 5);
            Edge.refused("14 person(6, " + what + ")", Edge.FULL, x -> x.person(6, what), 5);
        }
    }

    private static void promise15Stair() {
        QuarrelKeys x = Check.with(Edge.FULL_TEXT);
        // as they were told: STAIR 6 from the last one to the first
        int[][] due = {{0, 1, 1, 4 + 5 + 2}, {1, 2, 2, 5 + 6 + 4}, {2, 3, 0, 6}, {3, 4, 4, 9 + 8}, {4, 5, 9, 9 + 3 + 18},
            {5, 6, 0, 3 + 8}, {6, 0, 3, 8 + 4 + 6}, {0, 2, 0, 4 + 6}, {1, 3, 8, 5 + 16}, {2, 4, 0, 6 + 9}};
        for (int s = 0; s < 10; s++) {
            for (int what = 0; what < 4; what++) {
                Check.fine(x, "15 stair(" + s + ", " + what + ")", x.stair(s, what), due[s][what]);
            }
            // COOL is 4; STAIR 4 has GRUDGE 9
            Check.fine(x, "15 stair(" + s + ", 4)", x.stair(s, 4), s == 4 ? 0 : 1);
        }
    }

    private static QuarrelKeys heated(int cool, int first, int second, int grudge) {
        return Check.with("cool " + cool + ";person a temper " + first + ";person b temper " + second + ";stair a b grudge "
            + grudge + ";");
    }

    private static void promise15Heat() {
        Check.due("15 the least HEAT", heated(5, 0, 0, 0).stair(0, 3), 0);
        Check.due("15 the greatest HEAT", heated(5, 9, 9, 9).stair(0, 3), 36);
        Check.due("15 the first one's TEMPER", heated(5, 7, 0, 0).stair(0, 3), 7);
        Check.due("15 the second one's TEMPER", heated(5, 0, 8, 0).stair(0, 3), 8);
        Check.due("15 twice the GRUDGE", heated(5, 0, 0, 1).stair(0, 3), 2);
    }

    private static void promise15CanQuarrel() {
        int[][] due = {{0, 0, 0, 0, 0}, {0, 1, 0, 0, 1}, {0, 0, 1, 0, 1}, {5, 3, 2, 0, 0}, {5, 3, 3, 0, 1}, {6, 3, 3, 0, 0},
            {7, 3, 3, 1, 1}, {8, 3, 3, 1, 0}, {30, 9, 9, 6, 0}, {29, 9, 9, 6, 1}, {30, 9, 8, 7, 1}, {30, 9, 9, 7, 1},
            {30, 9, 9, 8, 1}, {30, 9, 9, 9, 0}, {0, 9, 9, 9, 0}, {0, 0, 0, 8, 1}, {16, 0, 0, 8, 0}};
        for (int[] d : due) {
            Check.due("15 can QUARREL by COOL " + d[0] + ", TEMPERS " + d[1] + ", " + d[2] + ", GRUDGE " + d[3],
                heated(d[0], d[1], d[2], d[3]).stair(0, 4), d[4]);
        }
    }

    /** Of the first one and the second one, each from 4 to 6: how they LIKE their own HOUSE and the other one's. */
    private static void promise15CanMakeUp() {
        for (int i = 0; i < 81; i++) {
            int aa = 4 + i % 3;
            int ab = 4 + i / 3 % 3;
            int ba = 4 + i / 9 % 3;
            int bb = 4 + i / 27;
            String likes = "person a;person b;like a a " + aa + ";like a b " + ab + ";like b a " + ba + ";like b b " + bb + ";";
            QuarrelKeys home = Check.with(likes + "stair a b grudge 1;");
            Check.due("15 can MAKE UP at HOME by " + likes, home.stair(0, 5), ab >= aa && ba >= bb ? 1 : 0);
            QuarrelKeys away = Check.with(likes + "stair b a grudge 9;swap a b;");
            Check.due("15 can MAKE UP away by " + likes, away.stair(0, 5), aa >= ab && bb >= ba ? 1 : 0);
            QuarrelKeys none = Check.with(likes + "stair a b;swap a b;");
            Check.due("15 can't MAKE UP by GRUDGE 0 by " + likes, none.stair(0, 5), 0);
        }
        // HEAT and COOL do not count
        QuarrelKeys cool = Check.with("cool 30;person a temper 0;person b temper 0;stair a b grudge 1;");
        Check.due("15 can MAKE UP whatever COOL is", cool.stair(0, 5), 1);
        QuarrelKeys hot = Check.with("cool 0;person a temper 9;person b temper 9;stair a b grudge 9;");
        Check.due("15 can MAKE UP whatever HEAT is", hot.stair(0, 5), 1);
        // HOUSES of others: a lives in c's, b in a's, c in b's; a would have a's, b c's
        QuarrelKeys x = Check.with("person a;person b;person c;stair a b grudge 1;swap a c;swap b c;like a b 9;like b b 9;");
        Check.due("15 lives", Check.lives(x), "201");
        Check.due("15 can MAKE UP over the HOUSES of others", x.stair(0, 5), 1);
        x.tell(1, 2, 4);
        Check.due("15 can't, by the HOUSE where the other one lives", x.stair(0, 5), 0);
    }

    private static void promise15Refused() {
        for (int s : new int[] {-1, 10, 11, Edge.MIN, Edge.MAX}) {
            Edge.refused("15 stair(" + s + ", 0)", Edge.FULL, x -> x.stair(s, 0), 2);
            Edge.refused("15 stair(" + s + ", 6): 2 ahead of 5", Edge.FULL, x -> x.stair(s, 6), 2);
        }
        Edge.refused("15 a third of two", Edge.SOME, x -> x.stair(2, 0), 2);
        Edge.refused("15 no STAIR", Edge.BARE, x -> x.stair(0, 0), 2);
        for (int what : new int[] {-1, 6, Edge.MIN, Edge.MAX}) {
            Edge.refused("15 stair(0, " + what + ")", Edge.FULL, x -> x.stair(0, what), 5);
            Edge.refused("15 stair(9, " + what + ")", Edge.FULL, x -> x.stair(9, what), 5);
        }
    }

    private static void promise16Likes() {
        Edge.Maker seven = Edge.with(Edge.SEVEN + "like a g 0;like g a 9;like g g 1;");
        Edge.taken("16 the first one of the last one's", seven, x -> x.likes(0, 6), 0);
        Edge.taken("16 the last one of the first one's", seven, x -> x.likes(6, 0), 9);
        Edge.taken("16 the last one of his own", seven, x -> x.likes(6, 6), 1);
        Edge.taken("16 without", seven, x -> x.likes(0, 0), 5);
        for (int p : new int[] {-1, 7, Edge.MIN, Edge.MAX}) {
            Edge.refused("16 likes(" + p + ", 0)", Edge.FULL, x -> x.likes(p, 0), 2);
            Edge.refused("16 likes(0, " + p + ")", Edge.FULL, x -> x.likes(0, p), 2);
            Edge.refused("16 likes(" + p + ", " + p + ")", Edge.FULL, x -> x.likes(p, p), 2);
        }
        // places that would be inside a square of seven
        Edge.refused("16 likes(0, 3) of three", Edge.SOME, x -> x.likes(0, 3), 2);
        Edge.refused("16 likes(3, 0) of three", Edge.SOME, x -> x.likes(3, 0), 2);
        Edge.refused("16 likes(1, -1) of three", Edge.SOME, x -> x.likes(1, -1), 2);
        Edge.refused("16 nobody", Edge.BARE, x -> x.likes(0, 0), 2);
    }

    private static void copied(int people, int sort, int many) {
        QuarrelKeys x = Check.with(Edge.SEVEN.substring(0, 9 * people) + (people > 1 ? "swap a b;" : ""));
        x.tray(3, sort, many);
        for (int i = 0; i < many; i++) {
            x.write(3, i, -3);
        }
        Check.fine(x, "17 copyLives of " + people + " to " + many + " by sort " + sort, x.copyLives(3), people);
        for (int i = 0; i < many; i++) {
            int lives = people > 1 && i < 2 ? 1 - i : i;
            Check.due("17 place " + i + " of " + many, x.read(3, i), i < people ? lives : -3);
        }
    }

    private static void promise17CopyLives() {
        for (int people = 0; people <= 7; people++) {
            for (int sort = 0; sort < 4; sort++) {
                copied(people, sort, people);
                copied(people, sort, people + 1);
                copied(people, sort, 60);
            }
            if (people > 0) {
                int many = people - 1;
                QuarrelKeys x = Check.with(Edge.SEVEN.substring(0, 9 * people));
                x.tray(0, 0, many);
                Check.refused(x, "17 copyLives of " + people + " to " + many, y -> y.copyLives(0), 4);
                x.tray(0, 0, 0);
                Check.refused(x, "17 copyLives of " + people + " to none", y -> y.copyLives(0), 4);
            }
        }
        for (int tray : OUTSIDE) {
            Edge.refused("17 copyLives(" + tray + ")", Edge.FULL, x -> x.copyLives(tray), 1);
        }
        Edge.refused("17 copyLives(4)", Edge.FULL, x -> x.copyLives(4), 1);
        Edge.refused("17 copyLives(4) of nobody", Edge.BARE, x -> x.copyLives(4), 1);
        Edge.refused("17 copyLives to a TRAY that is MISSING", Edge.FULL, x -> x.copyLives(3), 3);
        Edge.refused("17 copyLives of nobody to a TRAY that is MISSING", Edge.BARE, x -> x.copyLives(0), 3);
        Edge.refused("17 copyLives of seven to five", Edge.FULL, x -> x.copyLives(1), 4);
        Edge.taken("17 copyLives of seven to eight", Edge.FULL, x -> x.copyLives(2), 7);
    }
}
