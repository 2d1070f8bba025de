/** Promises 18 to 26: what is done. */
public final class DeedsTest {
    public static void main(String[] args) {
        quarrelSwapsKeys();
        quarrelThatCantBe();
        makeUpSwapsKeys();
        makeUpThatCantBe();
        nightsGoBy();
        nightsAreRefused();
        calmSets();
        tellSets();
        swapSwaps();
        comeAdds();
        buildAdds();
        ruleSets();
        Check.end("DeedsTest");
    }

    private static void quarrelSwapsKeys() {
        QuarrelKeys x = Check.with("cool 6;person a temper 4;person b temper 3;person c;stair a b;stair b c;swap b c;");
        Check.fine(x, "quarrel(0)", x.quarrel(0), 1);
        Check.due("lives", Check.lives(x), "201");
        Check.due("quarrels", x.many(5), 1);
        Check.due("makings up", x.many(6), 0);
        Check.due("tempers", x.many(8), 10);
        Check.due("grudge", x.stair(0, 2), 1);
        Check.due("grudge of the other stair", x.stair(1, 2), 0);
        Check.due("night", x.many(4), 0);
        Check.fine(x, "quarrel(0) again", x.quarrel(0), 2);
        Check.due("lives", Check.lives(x), "021");
    }

    private static void quarrelThatCantBe() {
        QuarrelKeys x = Check.with("cool 6;person a;person b;stair a b;");
        Check.refused(x, "quarrel by heat 6 and cool 6", y -> y.quarrel(0), 9);
        Check.refused(x, "quarrel(-1)", y -> y.quarrel(-1), 2);
        Check.refused(x, "quarrel(1)", y -> y.quarrel(1), 2);
        x.calm(0, 4);
        for (int grudge = 1; grudge <= 9; grudge++) {
            Check.fine(x, "quarrel " + grudge, x.quarrel(0), grudge);
        }
        Check.refused(x, "quarrel by grudge 9", y -> y.quarrel(0), 9);
        Check.due("lives", Check.lives(x), "10");
    }

    private static void makeUpSwapsKeys() {
        QuarrelKeys x = Check.with("person a;person b;person c;stair a b grudge 2;swap a c;like a b 6;like b c 5;");
        // a lives in c (5), b in b (5): a would have b (6), b would have c (5)
        Check.fine(x, "makeUp(0)", x.makeUp(0), 1);
        Check.due("lives", Check.lives(x), "120");
        Check.due("makings up", x.many(6), 1);
        Check.due("quarrels", x.many(5), 0);
        Check.due("tempers", x.many(8), 9);
        Check.refused(x, "makeUp back: a would lose", y -> y.makeUp(0), 9);
    }

    private static void makeUpThatCantBe() {
        QuarrelKeys x = Check.with("person a;person b;stair a b grudge 1;swap a b;");
        Check.refused(x, "makeUp(-1)", y -> y.makeUp(-1), 2);
        Check.refused(x, "makeUp(1)", y -> y.makeUp(1), 2);
        x.tell(0, 0, 4);
        Check.refused(x, "makeUp: the first would lose", y -> y.makeUp(0), 9);
        x.tell(0, 0, 5);
        x.tell(1, 1, 4);
        Check.refused(x, "makeUp: the second would lose", y -> y.makeUp(0), 9);
        x.tell(1, 1, 9);
        Check.fine(x, "makeUp(0)", x.makeUp(0), 0);
        Check.refused(x, "makeUp by grudge 0", y -> y.makeUp(0), 9);
    }

    private static void nightsGoBy() {
        QuarrelKeys x = Check.with("person a temper 8;person b temper 1;person c temper 5;swap a b;like a a 6;like b a 9;");
        // a likes where he lives less than his own, b more, c the same
        Check.fine(x, "night(1)", x.night(1), 9 + 0 + 4);
        Check.due("night", x.many(4), 1);
        Check.fine(x, "night(3)", x.night(3), 9 + 0 + 1);
        Check.due("temper of a", x.person(0, 0), 9);
        Check.due("temper of b", x.person(1, 0), 0);
        Check.due("temper of c", x.person(2, 0), 1);
        Check.fine(x, "night(99)", x.night(99), 9);
        Check.due("night", x.many(4), 103);
        x.swap(0, 1);
        Check.fine(x, "night(2) at home", x.night(2), 7 + 0 + 0);
    }

    private static void nightsAreRefused() {
        QuarrelKeys x = Check.with("person a;");
        for (int n : new int[] {0, -1, 100, Integer.MIN_VALUE, Integer.MAX_VALUE}) {
            Check.refused(x, "night(" + n + ")", y -> y.night(n), 5);
        }
        for (int i = 0; i < 100; i++) {
            Check.fine(x, "night(99)", x.night(99), 0);
        }
        Check.due("night", x.many(4), 9900);
        x.night(50);
        x.calm(0, 4);
        Check.refused(x, "night(50) of 9950", y -> y.night(50), 7);
        Check.fine(x, "night(49) of 9950", x.night(49), 0);
        Check.due("night", x.many(4), 9999);
        Check.refused(x, "night(1) of 9999", y -> y.night(1), 7);
        Check.refused(x, "night(100) of 9999", y -> y.night(100), 5);
        Check.refused(x, "night(0) of 9999", y -> y.night(0), 5);
    }

    private static void calmSets() {
        QuarrelKeys x = Check.with("person a;person b temper 7;");
        Check.fine(x, "calm(1, 0)", x.calm(1, 0), 7);
        Check.fine(x, "calm(1, 9)", x.calm(1, 9), 0);
        Check.fine(x, "calm(1, 9) to what it is", x.calm(1, 9), 9);
        Check.due("temper of a", x.person(0, 0), 3);
        int[][] wrong = {{-1, 0, 2}, {2, 0, 2}, {2, 10, 2}, {0, -1, 5}, {0, 10, 5}, {0, Integer.MAX_VALUE, 5}};
        for (int[] w : wrong) {
            Check.refused(x, "calm(" + w[0] + ", " + w[1] + ")", y -> y.calm(w[0], w[1]), w[2]);
        }
    }

    private static void tellSets() {
        QuarrelKeys x = Check.with("person a;person b;like a b 7;");
        Check.fine(x, "tell(0, 1, 0)", x.tell(0, 1, 0), 7);
        Check.fine(x, "tell(0, 1, 9)", x.tell(0, 1, 9), 0);
        Check.fine(x, "tell(1, 1, 2)", x.tell(1, 1, 2), 5);
        int[] due = {5, 9, 5, 2};
        for (int i = 0; i < 4; i++) {
            Check.due("likes(" + i / 2 + ", " + i % 2 + ")", x.likes(i / 2, i % 2), due[i]);
        }
        int[][] wrong = {{-1, 0, 0, 2}, {2, 0, 0, 2}, {0, -1, 0, 2}, {0, 2, 0, 2}, {0, 2, 10, 2}, {0, 0, -1, 5},
            {0, 0, 10, 5}, {1, 1, Integer.MIN_VALUE, 5}};
        for (int[] w : wrong) {
            Check.refused(x, "tell(" + w[0] + ", " + w[1] + ", " + w[2] + ")", y -> y.tell(w[0], w[1], w[2]), w[3]);
        }
    }

    private static void swapSwaps() {
        QuarrelKeys x = Check.with("person a;person b;person c;person d;stair a b;");
        Check.fine(x, "swap(0, 1)", x.swap(0, 1), 2);
        Check.fine(x, "swap(1, 2)", x.swap(1, 2), 1);
        Check.due("lives", Check.lives(x), "1203");
        Check.due("quarrels, makings up, grudges, night", x.many(5) + x.many(6) + x.many(9) + x.many(4), 0);
        Check.fine(x, "swap(2, 1)", x.swap(2, 1), 2);
        Check.fine(x, "swap(0, 1)", x.swap(0, 1), 4);
        int[][] wrong = {{-1, 0, 2}, {0, -1, 2}, {4, 0, 2}, {0, 4, 2}, {4, 4, 2}, {-1, -1, 2}, {2, 2, 5}};
        for (int[] w : wrong) {
            Check.refused(x, "swap(" + w[0] + ", " + w[1] + ")", y -> y.swap(w[0], w[1]), w[2]);
        }
    }

    private static void comeAdds() {
        QuarrelKeys x = Check.with("person a temper 9;person b;person c;like a a 1;like c c 1;");
        // what was told of a person who is gone must not come back
        Check.quarter(x, "person a;person b;like a b 9;swap a b;");
        Check.fine(x, "come()", x.come(), 2);
        int[] due = {3, 2, 2, 5, 0};
        for (int what = 0; what < 5; what++) {
            Check.due("person(2, " + what + ")", x.person(2, what), due[what]);
        }
        for (int i = 0; i < 3; i++) {
            Check.due("likes(2, " + i + ")", x.likes(2, i), 5);
            Check.due("likes(" + i + ", 2)", x.likes(i, 2), 5);
        }
        Check.due("likes(0, 1)", x.likes(0, 1), 9);
        Check.due("lives", Check.lives(x), "102");
        for (int i = 3; i < 7; i++) {
            Check.fine(x, "come()", x.come(), i);
        }
        Check.refused(x, "come() of an eighth", y -> y.come(), 7);
        Check.due("people", x.many(0), 7);
    }

    private static void buildAdds() {
        QuarrelKeys x = Check.with("person a;person b;person c;person d;person e;stair a b grudge 4;");
        Check.fine(x, "build(2, 1)", x.build(2, 1), 1);
        Check.due("stair", x.stair(1, 0) * 100 + x.stair(1, 1) * 10 + x.stair(1, 2), 210);
        int[][] wrong = {{-1, 0, 2}, {0, -1, 2}, {5, 0, 2}, {0, 5, 2}, {5, 5, 2}, {3, 3, 5}, {0, 1, 9}, {1, 0, 9},
            {1, 2, 9}, {2, 1, 9}};
        for (int[] w : wrong) {
            Check.refused(x, "build(" + w[0] + ", " + w[1] + ")", y -> y.build(w[0], w[1]), w[2]);
        }
        int stair = 2;
        for (int a = 0; a < 5; a++) {
            for (int b = a + 1; b < 5; b++) {
                if (a + b != 1 && a + b != 3 || a == 0 && b == 3) {
                    Check.fine(x, "build(" + a + ", " + b + ")", x.build(a, b), stair);
                    stair++;
                }
            }
        }
        Check.due("stairs", x.many(1), 10);
        x.come();
        Check.refused(x, "build of an 11th", y -> y.build(0, 5), 7);
        Check.refused(x, "build of an 11th that is there", y -> y.build(0, 1), 7);
        Check.refused(x, "build of an 11th with himself", y -> y.build(1, 1), 5);
        Check.refused(x, "build of an 11th with nobody", y -> y.build(1, 6), 2);
    }

    private static void ruleSets() {
        QuarrelKeys x = Check.with("person a;person b;stair a b;");
        Check.fine(x, "rule(2, 0)", x.rule(2, 0));
        Check.due("odds", x.many(2), 0);
        Check.fine(x, "rule(2, 16)", x.rule(2, 16));
        Check.due("odds", x.many(2), 16);
        Check.fine(x, "rule(3, 0)", x.rule(3, 0));
        Check.due("cool", x.many(3), 0);
        Check.fine(x, "rule(3, 30)", x.rule(3, 30));
        Check.due("cool", x.many(3), 30);
        Check.due("a quarrel by heat 6 and cool 30", x.stair(0, 4), 0);
        int[][] wrong = {{2, -1}, {2, 17}, {3, -1}, {3, 31}, {1, 5}, {4, 5}, {0, 0}, {-1, 0}, {Integer.MAX_VALUE, 3}};
        for (int[] w : wrong) {
            Check.denied(x, "rule(" + w[0] + ", " + w[1] + ")", y -> y.rule(w[0], w[1]), 5);
        }
    }
}
