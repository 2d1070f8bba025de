/** Promises 18 to 26, boundary by boundary: what is done. */
public final class EdgesOfDeedsTest {
    private static final String TWO = "person a;person b;";
    private static final int[] NOBODIES = {-1, 7, 8, Edge.MIN, Edge.MAX};

    public static void main(String[] args) {
        promise18Quarrel();
        promise18CantBe();
        promise19MakeUp();
        promise19CantBe();
        promise20Nights();
        promise20Tempers();
        promise20TheLastNight();
        promise20Refused();
        promise21Calm();
        promise22Tell();
        promise23Swap();
        promise24Come();
        promise25Build();
        promise25Order();
        promise26Rule();
        Check.end("EdgesOfDeedsTest");
    }

    private static Edge.Maker heated(int cool, int first, int second, int grudge) {
        return Edge.with("cool " + cool + ";person a temper " + first + ";person b temper " + second + ";stair a b grudge "
            + grudge + ";");
    }

    private static void promise18Quarrel() {
        Edge.taken("18 HEAT 1, COOL 0", heated(0, 1, 0, 0), x -> x.quarrel(0), 1);
        Edge.taken("18 HEAT 6, COOL 5", heated(5, 3, 3, 0), x -> x.quarrel(0), 1);
        Edge.taken("18 HEAT 31, COOL 30", heated(30, 9, 8, 7), x -> x.quarrel(0), 8);
        Edge.taken("18 GRUDGE 8", heated(0, 0, 0, 8), x -> x.quarrel(0), 9);
        QuarrelKeys x = heated(5, 3, 3, 0).make();
        for (int grudge = 1; grudge <= 9; grudge++) {
            Check.fine(x, "18 quarrel " + grudge, x.quarrel(0), grudge);
            Check.due("18 lives behind quarrel " + grudge, Check.lives(x), grudge % 2 == 1 ? "10" : "01");
            Check.due("18 HEAT behind quarrel " + grudge, x.stair(0, 3), 6 + 2 * grudge);
        }
        Check.refused(x, "18 a tenth one", y -> y.quarrel(0), 9);
        // STAIR 9 of ten: the other STAIRS, TEMPERS, LIKINGS and the NIGHT stay
        QuarrelKeys z = Check.with(Edge.FULL_TEXT);
        String lives = Check.lives(z);
        Check.fine(z, "18 the last of ten", z.quarrel(9), 1);
        Check.due("18 c and e swap KEYS, nobody else", Check.lives(z), "" + lives.charAt(0) + lives.charAt(1) + lives.charAt(4)
            + lives.charAt(3) + lives.charAt(2) + lives.substring(5));
        Check.due("18 GRUDGES, TEMPERS, the NIGHT", z.many(9) * 10000 + z.many(8) * 100 + z.many(4), 28 * 10000 + 3500);
    }

    private static void promise18CantBe() {
        Edge.refused("18 HEAT 0, COOL 0", heated(0, 0, 0, 0), x -> x.quarrel(0), 9);
        Edge.refused("18 HEAT 5, COOL 5", heated(5, 3, 2, 0), x -> x.quarrel(0), 9);
        Edge.refused("18 HEAT 30, COOL 30", heated(30, 9, 9, 6), x -> x.quarrel(0), 9);
        Edge.refused("18 GRUDGE 9", heated(0, 9, 9, 9), x -> x.quarrel(0), 9);
        Edge.refused("18 GRUDGE 9 of a full one", Edge.FULL, x -> x.quarrel(4), 9);
        for (int s : new int[] {-1, 10, Edge.MIN, Edge.MAX}) {
            Edge.refused("18 quarrel(" + s + ")", Edge.FULL, x -> x.quarrel(s), 2);
            Edge.refused("19 makeUp(" + s + ")", Edge.FULL, x -> x.makeUp(s), 2);
        }
        Edge.refused("18 a third STAIR of two", Edge.SOME, x -> x.quarrel(2), 2);
        Edge.refused("18 no STAIR", Edge.BARE, x -> x.quarrel(0), 2);
    }

    private static void promise19MakeUp() {
        Edge.taken("19 GRUDGE 1", Edge.with(TWO + "stair a b grudge 1;"), x -> x.makeUp(0), 0);
        Edge.taken("19 GRUDGE 9", Edge.with(TWO + "stair a b grudge 9;"), x -> x.makeUp(0), 8);
        Edge.taken("19 both no less", Edge.with(TWO + "stair a b grudge 1;like a a 0;like a b 0;"), x -> x.makeUp(0), 0);
        Edge.taken("19 both more", Edge.with(TWO + "stair a b grudge 1;like a b 9;like b a 6;"), x -> x.makeUp(0), 0);
        Edge.taken("19 whatever COOL is", heated(30, 0, 0, 1), x -> x.makeUp(0), 0);
        QuarrelKeys x = Check.with(TWO + "stair a b grudge 9;");
        for (int grudge = 8; grudge >= 0; grudge--) {
            Check.fine(x, "19 makeUp to " + grudge, x.makeUp(0), grudge);
            Check.due("19 lives by GRUDGE " + grudge, Check.lives(x), grudge % 2 == 0 ? "10" : "01");
        }
        Check.refused(x, "19 a tenth one", y -> y.makeUp(0), 9);
        Check.due("19 MAKINGS UP, QUARRELS", x.many(6) * 10 + x.many(5), 90);
    }

    private static void promise19CantBe() {
        Edge.refused("19 GRUDGE 0", Edge.with(TWO + "stair a b;"), x -> x.makeUp(0), 9);
        Edge.refused("19 the first one less by 1", Edge.with(TWO + "stair a b grudge 9;like a b 4;"), x -> x.makeUp(0), 9);
        Edge.refused("19 the second one less by 1", Edge.with(TWO + "stair a b grudge 9;like b a 4;like a b 9;"),
            x -> x.makeUp(0), 9);
        Edge.refused("19 the first one less by 1, away", Edge.with(TWO + "stair a b grudge 9;like a a 4;like b b 9;swap a b;"),
            x -> x.makeUp(0), 9);
        Edge.refused("19 the second one less by 1, away", Edge.with(TWO + "stair a b grudge 9;like b b 4;swap a b;"),
            x -> x.makeUp(0), 9);
        Edge.refused("19 no STAIR", Edge.BARE, x -> x.makeUp(0), 2);
        Edge.refused("19 a third STAIR of two", Edge.SOME, x -> x.makeUp(2), 2);
    }

    private static void promise20Nights() {
        Edge.taken("20 one", Edge.with("person a temper 9;"), x -> x.night(1), 8);
        Edge.taken("20 99", Edge.with("person a temper 9;"), x -> x.night(99), 0);
        Edge.taken("20 one of nobody", Edge.BARE, x -> x.night(1), 0);
        Edge.taken("20 all TEMPERS together: 8 by each of seven",
            Edge.with(Edge.SEVEN.replace(";", " temper 9;")), x -> x.night(1), 56);
        QuarrelKeys x = new QuarrelKeys();
        x.night(1);
        Check.due("20 NIGHT 1", x.many(4), 1);
        x.night(99);
        Check.due("20 NIGHT 100", x.many(4), 100);
    }

    /** By how much one who lives elsewhere LIKES it, less than, as, more than his own. */
    private static void promise20Tempers() {
        for (int temper = 0; temper <= 9; temper++) {
            for (int nights : new int[] {1, 2, 8, 9, 10, 99}) {
                String people = "person a temper " + temper + ";person b temper " + temper + ";swap a b;";
                // b's own is liked less by b: he cools
                QuarrelKeys x = Check.with(people + "like a a 6;like b b 4;");
                x.night(nights);
                Check.due("20 TEMPER " + temper + " grows by " + nights, x.person(0, 0), Math.min(9, temper + nights));
                Check.due("20 TEMPER " + temper + " cools by " + nights, x.person(1, 0), Math.max(0, temper - nights));
                QuarrelKeys alike = Check.with(people + "like a a 9;like a b 9;like b b 0;like b a 0;");
                alike.night(nights);
                Check.due("20 who LIKES both as much cools", alike.person(0, 0), Math.max(0, temper - nights));
                Check.due("20 who LIKES both not at all cools", alike.person(1, 0), Math.max(0, temper - nights));
                QuarrelKeys home = Check.with("person a temper " + temper + ";like a a 0;");
                home.night(nights);
                Check.due("20 who is HOME cools", home.person(0, 0), Math.max(0, temper - nights));
            }
        }
        QuarrelKeys x = Check.with(TWO + "stair a b grudge 4;swap a b;like a a 9;");
        x.night(3);
        Check.due("20 GRUDGES, QUARRELS, MAKINGS UP stay", x.many(9) * 100 + x.many(5) * 10 + x.many(6), 400);
        Check.due("20 KEYS stay", Check.lives(x), "10");
    }

    private static QuarrelKeys at(int night) {
        QuarrelKeys x = Check.with("person a temper 9;person b;stair a b;swap a b;like a a 6;");
        for (int left = night; left > 0; left -= Math.min(99, left)) {
            x.night(Math.min(99, left));
        }
        x.calm(0, 4);
        x.calm(1, 4);
        return x;
    }

    private static void promise20TheLastNight() {
        Edge.taken("20 from 9,998 to 9,999", () -> at(9998), x -> x.night(1), 5 + 3);
        Edge.taken("20 from 9,900 to 9,999", () -> at(9900), x -> x.night(99), 9);
        Edge.refused("20 from 9,999", () -> at(9999), x -> x.night(1), 7);
        Edge.refused("20 from 9,998 by two", () -> at(9998), x -> x.night(2), 7);
        Edge.refused("20 from 9,901 by 99", () -> at(9901), x -> x.night(99), 7);
        Edge.refused("20 from 9,999 by 99", () -> at(9999), x -> x.night(99), 7);
        Edge.refused("20 5 ahead of 7, none", () -> at(9999), x -> x.night(0), 5);
        Edge.refused("20 5 ahead of 7, a hundred", () -> at(9999), x -> x.night(100), 5);
        QuarrelKeys x = at(9998);
        x.night(1);
        Check.due("20 NIGHT 9,999", x.many(4), 9999);
    }

    private static void promise20Refused() {
        for (int n : new int[] {0, -1, 100, Edge.MIN, Edge.MAX}) {
            Edge.refused("20 night(" + n + ")", Edge.FULL, x -> x.night(n), 5);
            Edge.refused("20 night(" + n + ") of nobody", Edge.BARE, x -> x.night(n), 5);
        }
    }

    private static void promise21Calm() {
        QuarrelKeys y = Check.with(Edge.FULL_TEXT);
        Check.fine(y, "21 the last one to 0: what it was", y.calm(6, 0), 8);
        Check.fine(y, "21 from 0 to 9", y.calm(6, 9), 0);
        Check.fine(y, "21 to what it is", y.calm(6, 9), 9);
        Check.fine(y, "21 the first one", y.calm(0, 1), 4);
        Check.due("21 all others stay", y.many(8), 35 - 4 + 1 - 8 + 9);
        for (int p : NOBODIES) {
            Edge.refused("21 calm(" + p + ", 1)", Edge.FULL, z -> z.calm(p, 1), 2);
            Edge.refused("21 calm(" + p + ", 10): 2 ahead of 5", Edge.FULL, z -> z.calm(p, 10), 2);
        }
        for (int temper : new int[] {-1, 10, Edge.MIN, Edge.MAX}) {
            Edge.refused("21 calm(0, " + temper + ")", Edge.FULL, z -> z.calm(0, temper), 5);
            Edge.refused("21 calm(6, " + temper + ")", Edge.FULL, z -> z.calm(6, temper), 5);
        }
        Edge.refused("21 a fourth of three", Edge.SOME, z -> z.calm(3, 1), 2);
        Edge.refused("21 nobody", Edge.BARE, z -> z.calm(0, 1), 2);
    }

    private static void promise22Tell() {
        QuarrelKeys x = Check.with(Edge.FULL_TEXT);
        Check.fine(x, "22 to 0: what it was", x.tell(0, 1, 0), 9);
        Check.fine(x, "22 from 0 to 9", x.tell(0, 1, 9), 0);
        Check.fine(x, "22 to what it is", x.tell(0, 1, 9), 9);
        Check.fine(x, "22 the last one of his own", x.tell(6, 6, 0), 5);
        Check.fine(x, "22 the last one of the first one's", x.tell(6, 0, 9), 5);
        Check.due("22 likes(6, 6)", x.likes(6, 6), 0);
        Check.due("22 likes(6, 0)", x.likes(6, 0), 9);
        Check.due("22 likes(0, 6) stays", x.likes(0, 6), 5);
        for (int p : NOBODIES) {
            Edge.refused("22 tell(" + p + ", 0, 1)", Edge.FULL, z -> z.tell(p, 0, 1), 2);
            Edge.refused("22 tell(0, " + p + ", 1)", Edge.FULL, z -> z.tell(0, p, 1), 2);
            Edge.refused("22 tell(" + p + ", 0, 10): 2 ahead of 5", Edge.FULL, z -> z.tell(p, 0, 10), 2);
            Edge.refused("22 tell(0, " + p + ", -1): 2 ahead of 5", Edge.FULL, z -> z.tell(0, p, -1), 2);
        }
        for (int much : new int[] {-1, 10, Edge.MIN, Edge.MAX}) {
            Edge.refused("22 tell(0, 1, " + much + ")", Edge.FULL, z -> z.tell(0, 1, much), 5);
            Edge.refused("22 tell(6, 6, " + much + ")", Edge.FULL, z -> z.tell(6, 6, much), 5);
        }
        Edge.refused("22 a fourth one's of three", Edge.SOME, z -> z.tell(0, 3, 1), 2);
        Edge.refused("22 nobody", Edge.BARE, z -> z.tell(0, 0, 1), 2);
    }

    private static void promise23Swap() {
        QuarrelKeys x = Check.with(Edge.SEVEN);
        Check.fine(x, "23 the first one and the last one", x.swap(0, 6), 5);
        Check.fine(x, "23 two others", x.swap(1, 2), 3);
        Check.fine(x, "23 two others", x.swap(4, 3), 1);
        Check.fine(x, "23 the last one who is HOME", x.swap(5, 0), 0);
        Check.due("23 lives", Check.lives(x), "5214360");
        x.swap(0, 5);
        Check.fine(x, "23 back, the other way round", x.swap(6, 0), 3);
        x.swap(1, 2);
        Check.fine(x, "23 all HOME", x.swap(3, 4), 7);
        Edge.taken("23 nobody is HOME of two", Edge.with(TWO), z -> z.swap(0, 1), 0);
        QuarrelKeys y = Check.with("cool 30;" + TWO + "stair a b grudge 9;like a b 0;like b a 0;");
        Check.fine(y, "23 whatever COOL, GRUDGE, LIKINGS are", y.swap(1, 0), 0);
        Check.due("23 nothing else changes", y.many(9) * 1000 + y.many(8) * 100 + y.many(4) + y.many(5) + y.many(6), 9600);
        for (int p : NOBODIES) {
            Edge.refused("23 swap(" + p + ", 0)", Edge.FULL, z -> z.swap(p, 0), 2);
            Edge.refused("23 swap(0, " + p + ")", Edge.FULL, z -> z.swap(0, p), 2);
            Edge.refused("23 swap(" + p + ", " + p + "): 2 ahead of 5", Edge.FULL, z -> z.swap(p, p), 2);
        }
        for (int p = 0; p < 7; p++) {
            int himself = p;
            Edge.refused("23 swap(" + p + ", " + p + ")", Edge.FULL, z -> z.swap(himself, himself), 5);
        }
        Edge.refused("23 a fourth of three", Edge.SOME, z -> z.swap(2, 3), 2);
        Edge.refused("23 nobody", Edge.BARE, z -> z.swap(0, 0), 2);
    }

    private static void promise24Come() {
        QuarrelKeys x = new QuarrelKeys();
        for (int p = 0; p < 7; p++) {
            Check.fine(x, "24 come " + p, x.come(), p);
            Check.due("24 TEMPER", x.person(p, 0), 3);
            Check.due("24 HOME", x.person(p, 1), p);
            Check.due("24 no STAIRS", x.person(p, 4), 0);
            for (int o = 0; o <= p; o++) {
                Check.due("24 likes(" + o + ", " + p + ")", x.likes(o, p), 5);
                Check.due("24 likes(" + p + ", " + o + ")", x.likes(p, o), 5);
            }
        }
        Check.refused(x, "24 an eighth", y -> y.come(), 7);
        Edge.refused("24 an eighth of a full one", Edge.FULL, y -> y.come(), 7);
        // what was there of one who is gone must not come back, what is there of others must stay
        QuarrelKeys z = Edge.FULL.make();
        z.quarter(0);
        Check.quarter(z, "person a temper 8;person b;like a b 0;like b b 1;swap a b;stair a b grudge 2;");
        Check.fine(z, "24 a third", z.come(), 2);
        Check.due("24 who he is", "" + z.person(2, 0) + z.person(2, 1) + z.person(2, 2) + z.person(2, 3) + z.person(2, 4), "32250");
        Check.due("24 the others stay", Check.lives(z) + z.person(0, 0) + z.likes(0, 1) + z.likes(1, 1) + z.many(9), "1028012");
        for (int p = 0; p < 3; p++) {
            Check.due("24 all LIKE his by 5, he all by 5", z.likes(p, 2) * 10 + z.likes(2, p), 55);
        }
        // DECADES stay
        QuarrelKeys lived = Edge.SOME.make();
        Check.fine(lived, "24 a fourth", lived.come(), 3);
        Check.fine(lived, "24 DECADES stay", lived.live(0), 3);
    }

    private static void promise25Build() {
        QuarrelKeys x = Check.with(Edge.SEVEN);
        int[][] ten = {{0, 1}, {1, 2}, {3, 2}, {3, 4}, {5, 4}, {6, 5}, {6, 0}, {0, 2}, {1, 3}, {4, 2}};
        for (int s = 0; s < 10; s++) {
            Check.fine(x, "25 build " + s, x.build(ten[s][0], ten[s][1]), s);
            Check.due("25 STAIR " + s, "" + x.stair(s, 0) + x.stair(s, 1) + x.stair(s, 2), "" + ten[s][0] + ten[s][1] + 0);
        }
        Check.refused(x, "25 an 11th", y -> y.build(0, 3), 7);
        Edge.refused("25 an 11th of a full one", Edge.FULL, y -> y.build(0, 4), 7);
        for (int p : NOBODIES) {
            Edge.refused("25 build(" + p + ", 0)", Edge.FULL, y -> y.build(p, 0), 2);
            Edge.refused("25 build(0, " + p + ")", Edge.FULL, y -> y.build(0, p), 2);
            Edge.refused("25 build(" + p + ", " + p + "): 2 ahead of 5", Edge.FULL, y -> y.build(p, p), 2);
        }
        Edge.refused("25 a fourth of three", Edge.SOME, y -> y.build(0, 3), 2);
        Edge.refused("25 nobody", Edge.BARE, y -> y.build(0, 1), 2);
        Edge.refused("25 one with himself", Edge.SOME, y -> y.build(2, 2), 5);
        Edge.refused("25 there is one", Edge.SOME, y -> y.build(0, 1), 9);
        Edge.refused("25 there is one, the other way round", Edge.SOME, y -> y.build(1, 0), 9);
        Edge.refused("25 there is one, the last", Edge.SOME, y -> y.build(2, 1), 9);
        Edge.taken("25 two who have STAIRS with a third", Edge.SOME, y -> y.build(2, 0), 2);
        // GRUDGE 0, whatever the STAIR of that number had in a QUARTER ahead
        QuarrelKeys y = Edge.FULL.make();
        y.quarter(40);
        y.come();
        Check.fine(y, "25 the first STAIR of a new QUARTER", y.build(1, 0), 0);
        Check.due("25 its GRUDGE", y.stair(0, 2), 0);
    }

    private static void promise25Order() {
        Edge.refused("25 5 ahead of 7", Edge.FULL, x -> x.build(3, 3), 5);
        Edge.refused("25 2 ahead of 7", Edge.FULL, x -> x.build(3, 7), 2);
        Edge.refused("25 7 ahead of 9", Edge.FULL, x -> x.build(0, 1), 7);
        Edge.refused("25 7 ahead of 9, the other way round", Edge.FULL, x -> x.build(1, 0), 7);
        Edge.Maker nine = Edge.with(Edge.SEVEN + Edge.LINE + "stair a c;stair a d;stair a e;");
        Edge.taken("25 a tenth", nine, x -> x.build(0, 5), 9);
        Edge.refused("25 a tenth that is there", nine, x -> x.build(4, 0), 9);
    }

    private static void ruled(int what, int much) {
        QuarrelKeys x = Check.with("odds 3;cool 4;");
        Check.fine(x, "26 rule(" + what + ", " + much + ")", x.rule(what, much));
        Check.due("26 ODDS by rule(" + what + ", " + much + ")", x.many(2), what == 2 ? much : 3);
        Check.due("26 COOL by rule(" + what + ", " + much + ")", x.many(3), what == 3 ? much : 4);
    }

    private static void promise26Rule() {
        for (int much : new int[] {0, 1, 15, 16}) {
            ruled(2, much);
        }
        for (int much : new int[] {0, 1, 17, 29, 30}) {
            ruled(3, much);
        }
        int[][] wrong = {{2, -1}, {2, 17}, {2, 30}, {2, Edge.MIN}, {2, Edge.MAX}, {3, -1}, {3, 31}, {3, Edge.MIN},
            {3, Edge.MAX}, {1, 5}, {4, 5}, {0, 5}, {-1, 5}, {Edge.MIN, 5}, {Edge.MAX, 5}};
        for (int[] w : wrong) {
            Edge.denied("26 rule(" + w[0] + ", " + w[1] + ")", Edge.FULL, x -> x.rule(w[0], w[1]), 5);
            Edge.denied("26 rule(" + w[0] + ", " + w[1] + ") of nobody", Edge.BARE, x -> x.rule(w[0], w[1]), 5);
        }
        // from now on
        QuarrelKeys x = Check.with("cool 30;" + TWO + "stair a b;", "any;");
        x.rule(3, 5);
        Check.due("26 COOL from now on", x.stair(0, 4), 1);
        x.rule(2, 16);
        x.live(0);
        Check.due("26 ODDS from now on", x.lived(2), 1);
        x.rule(2, 0);
        x.live(0);
        Check.due("26 ODDS 0 from now on", x.lived(3), 1);
    }
}
