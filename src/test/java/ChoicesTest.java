/** Promises 39 to 47 and 3, 4: who would rather, games, odds. */
public final class ChoicesTest {
    private static final String TWO = "person a;person b;";
    private static final String THREE = "person a;person b;person c;";
    private static final String FOUR = THREE + "person d;";
    private static final String SEVEN = FOUR + "person e;person f;person g;";

    public static void main(String[] args) {
        tradeInRings();
        tradeIsRefused();
        bestForAll();
        bestOfNeedsNoCallAhead();
        envyIsCounted();
        votesAreCounted();
        winnerBeatsAll();
        gameByBestPlay();
        gameOfFourTurns();
        gameIsRefused();
        moveIsTheFirstOfTheBest();
        moveIsRefused();
        driftTellsOdds();
        driftIsRefused();
        Check.end("ChoicesTest");
    }

    private static void traded(String text, String due) {
        QuarrelKeys x = Check.with(text);
        for (int p = 0; p < due.length(); p++) {
            Check.fine(x, "trade(" + p + ") of " + text, x.trade(p), due.charAt(p) - '0');
        }
    }

    private static void given(String text, int sum, String due) {
        QuarrelKeys x = Check.with(text);
        Check.fine(x, "best() of " + text, x.best(), sum);
        for (int p = 0; p < due.length(); p++) {
            Check.fine(x, "bestOf(" + p + ") of " + text, x.bestOf(p), due.charAt(p) - '0');
        }
    }

    private static void tradeInRings() {
        traded("person a;", "0");
        traded(TWO + "like a b 6;like b a 6;", "10");
        traded(THREE + "like a b 6;like b c 6;like c a 6;", "120");
        // all alike: each points at the first one left, who points at himself
        traded(THREE, "012");
        // all want b: he keeps it if he does, too
        traded(THREE + "like a b 9;like b b 9;like c b 9;", "012");
        // all want c, c wants a: a gets c, c gets a; then b and d have what is left
        traded(FOUR + "like a c 9;like b c 9;like d c 9;like c a 9;like b d 6;like d b 6;", "2301");
        // c and b both want a; a wants b: c is left with his own
        traded(THREE + "like c a 9;like b a 9;like a b 9;", "102");
        // where they live does not count
        traded(THREE + "like a b 6;like b a 6;swap a c;swap b c;", "102");
        // two rings in one round
        traded(FOUR + "like a d 9;like d a 9;like b c 9;like c b 9;", "3210");
        // all like the last one left most: seven rounds, in each of which one keeps his own
        traded(SEVEN + likesOfAll("abcdefg"), "0123456");
        traded(SEVEN + likesOfAll("gfedcba"), "0123456");
        // one ring of all
        traded(SEVEN + "like a b 6;like b c 6;like c d 6;like d e 6;like e f 6;like f g 6;like g a 6;", "1234560");
        // of several liked most the first
        traded(THREE + "like a b 9;like a c 9;like b a 9;like c a 9;", "102");
    }

    /** All like these houses, from 1 on, each one more than that ahead of it. */
    private static String likesOfAll(String houses) {
        StringBuilder all = new StringBuilder();
        for (char person = 'a'; person <= 'g'; person++) {
            for (int i = 0; i < houses.length(); i++) {
                all.append("like ").append(person).append(' ').append(houses.charAt(i)).append(' ').append(i + 1).append(';');
            }
        }
        return all.toString();
    }

    private static void tradeIsRefused() {
        QuarrelKeys x = Check.with(TWO);
        for (int p : new int[] {-1, 2, Integer.MAX_VALUE, Integer.MIN_VALUE}) {
            Check.refused(x, "trade(" + p + ")", y -> y.trade(p), 2);
            Check.refused(x, "bestOf(" + p + ")", y -> y.bestOf(p), 2);
        }
        Check.refused(new QuarrelKeys(), "trade(0) of nobody", y -> y.trade(0), 2);
        Check.refused(new QuarrelKeys(), "bestOf(0) of nobody", y -> y.bestOf(0), 2);
    }

    private static void bestForAll() {
        given("", 0, "");
        given("person a;", 5, "0");
        given("person a;like a a 0;", 0, "0");
        given(THREE, 15, "012");
        given(THREE + "like a b 6;like b c 6;like c a 6;", 18, "120");
        // a would give up what he likes most for the good of all
        given(TWO + "like a a 6;like b a 9;like b b 0;", 14, "10");
        // two ways of 16: 0 2 1 and 2 0 1, the first counts
        given(THREE + "like c b 6;", 16, "021");
        given(TWO + "like a a 0;like a b 0;like b a 0;like b b 0;", 0, "01");
        String nines = "person a;person b;person c;person d;person e;person f;person g;"
            + "like a g 9;like b f 9;like c e 9;like d d 9;like e c 9;like f b 9;like g a 9;";
        given(nines, 63, "6543210");
    }

    private static void bestOfNeedsNoCallAhead() {
        // both ways have 14, then the second one has more; b would never trade
        QuarrelKeys x = Check.with(TWO + "like a b 9;like b b 9;");
        Check.fine(x, "bestOf(0) at once", x.bestOf(0), 0);
        Check.fine(x, "bestOf(1) at once", x.bestOf(1), 1);
        x.tell(1, 1, 6);
        Check.fine(x, "bestOf(0) of new likings", x.bestOf(0), 1);
        Check.fine(x, "trade(0)", x.trade(0), 0);
        Check.fine(x, "bestOf(0) behind a trade", x.bestOf(0), 1);
        Check.fine(x, "trade(0) behind it", x.trade(0), 0);
    }

    private static void envyIsCounted() {
        QuarrelKeys x = Check.with(THREE + "like a b 6;like a c 7;like c b 5;");
        Check.fine(x, "envy(): a of b, a of c", x.envy(), 2);
        x.swap(0, 1);
        // a lives in b (6): c has more; b in a, c in c: nobody else
        Check.fine(x, "envy()", x.envy(), 1);
        x.tell(1, 1, 9);
        Check.fine(x, "envy(): b of a, too", x.envy(), 2);
        Check.fine(x, "envy() of nobody", new QuarrelKeys().envy(), 0);
    }

    private static void votesAreCounted() {
        QuarrelKeys x = Check.with(THREE + "like a b 6;like c b 4;like b b 9;like b c 8;");
        Check.fine(x, "vote(1, 0)", x.vote(1, 0), 2);
        Check.fine(x, "vote(0, 1)", x.vote(0, 1), 1);
        Check.fine(x, "vote(0, 2)", x.vote(0, 2), 0);
        Check.fine(x, "vote(2, 0)", x.vote(2, 0), 1);
        Check.fine(x, "vote(2, 1)", x.vote(2, 1), 1);
        int[][] wrong = {{-1, 0, 2}, {0, -1, 2}, {3, 0, 2}, {0, 3, 2}, {3, 3, 2}, {1, 1, 5}};
        for (int[] w : wrong) {
            Check.refused(x, "vote(" + w[0] + ", " + w[1] + ")", y -> y.vote(w[0], w[1]), w[2]);
        }
    }

    private static void winnerBeatsAll() {
        QuarrelKeys x = Check.with(THREE + "like a b 6;like c b 6;");
        Check.fine(x, "winner()", x.winner(), 1);
        Check.refused(Check.with(THREE), "winner() of all alike", y -> y.winner(), 8);
        // each beats the next by two of three
        QuarrelKeys ring = Check.with(THREE + "like a a 9;like a b 8;like a c 7;like b b 9;like b c 8;like b a 7;"
            + "like c c 9;like c a 8;like c b 7;");
        Check.refused(ring, "winner() of a ring", y -> y.winner(), 8);
        // two against two is not more
        Check.refused(Check.with(FOUR + "like a a 9;like b a 9;like c b 9;like d b 9;"), "winner() of a draw",
            y -> y.winner(), 8);
        Check.fine(x, "winner() of one", Check.with("person a;like a a 0;").winner(), 0);
        Check.fine(x, "winner() of the last", Check.with(THREE + "like a c 6;").winner(), 2);
        Check.refused(new QuarrelKeys(), "winner() of nobody", y -> y.winner(), 8);
    }

    private static void gameByBestPlay() {
        QuarrelKeys x = Check.with(TWO + "stair a b;like a b 9;");
        Check.fine(x, "game(0, 1, 0)", x.game(0, 1, 0), 0);
        Check.fine(x, "game(0, 1, 1): a swaps", x.game(0, 1, 1), 4);
        Check.fine(x, "game(0, 1, 2): b swaps back", x.game(0, 1, 2), 0);
        Check.fine(x, "game(0, 1, 3)", x.game(0, 1, 3), 4);
        Check.fine(x, "game(0, 1, 4)", x.game(0, 1, 4), 0);
        Check.fine(x, "game(1, 0, 1): b leaves it", x.game(1, 0, 1), 0);
        Check.fine(x, "game(1, 0, 2): a swaps then", x.game(1, 0, 2), -4);
        Check.due("lives behind games", Check.lives(x), "01");
        QuarrelKeys less = Check.with(TWO + "stair a b;like a a 4;like a b 0;");
        Check.fine(less, "game(0, 1, 1): -1 with status 0", less.game(0, 1, 1), -1);
        // c is no player, but on the stairs of both; the players have no stair together
        QuarrelKeys over = Check.with(THREE + "stair a c;stair b c;like a c 9;like a b 0;like b c 8;like b a 1;");
        Check.fine(over, "game(0, 1, 1)", over.game(0, 1, 1), 4);
        // a takes c (9), b gets a by c then (1) or stays (5)
        Check.fine(over, "game(0, 1, 2)", over.game(0, 1, 2), 4);
        Check.fine(over, "game(1, 0, 1)", over.game(1, 0, 1), 3);
        Check.fine(over, "game(1, 0, 2)", over.game(1, 0, 2), 3);
        QuarrelKeys apart = Check.with(FOUR + "stair c d;like c d 9;");
        Check.fine(apart, "game(0, 1, 4) without stairs of theirs", apart.game(0, 1, 4), 0);
    }

    private static void gameOfFourTurns() {
        // e has no stair, so his turns are lost; a can't come to e
        QuarrelKeys x = Check.with(FOUR + "person e;stair a b;stair a c;like a b 7;like a c 6;like a e 9;");
        Check.fine(x, "game(0, 4, 1)", x.game(0, 4, 1), 2);
        Check.fine(x, "game(0, 4, 4)", x.game(0, 4, 4), 2);
        Check.fine(x, "game(4, 0, 4)", x.game(4, 0, 4), -2);
        Check.fine(x, "game(4, 0, 1)", x.game(4, 0, 1), 0);
        Check.fine(x, "game(4, 0, 0)", x.game(4, 0, 0), 0);
        // b, if he moves last, sends a to b (1); a, if he does, gets c (9)
        QuarrelKeys y = Check.with(THREE + "stair a c;stair b c;stair a b;like a c 9;like a b 1;");
        Check.fine(y, "game(0, 1, 1)", y.game(0, 1, 1), 4);
        Check.fine(y, "game(0, 1, 2)", y.game(0, 1, 2), -4);
        Check.fine(y, "game(0, 1, 3)", y.game(0, 1, 3), 4);
        // ten stairs and seven people: the greatest game
        QuarrelKeys z = Check.with(FOUR + "person e;person f;person g;stair a b;stair a c;stair a d;stair a e;stair a f;"
            + "stair a g;stair b c;stair b d;stair b e;stair b f;like a g 9;like b g 9;");
        Check.fine(z, "game(0, 1, 1)", z.game(0, 1, 1), 4);
        Check.fine(z, "moveOf(0, 1, 1)", z.moveOf(0, 1, 1), 5);
        Check.fine(z, "night(1) of seven", z.night(1), 14);
    }

    private static void gameIsRefused() {
        QuarrelKeys x = Check.with(TWO + "stair a b;");
        int[][] wrong = {{-1, 0, 1, 2}, {0, -1, 1, 2}, {2, 0, 1, 2}, {0, 2, 1, 2}, {2, 2, 9, 2}, {0, 0, 1, 5}, {0, 1, -1, 5},
            {0, 1, 5, 5}, {0, 1, Integer.MAX_VALUE, 5}, {0, 1, Integer.MIN_VALUE, 5}};
        for (int[] w : wrong) {
            Check.refused(x, "game(" + w[0] + ", " + w[1] + ", " + w[2] + ")", y -> y.game(w[0], w[1], w[2]), w[3]);
            Check.refused(x, "moveOf(" + w[0] + ", " + w[1] + ", " + w[2] + ")", y -> y.moveOf(w[0], w[1], w[2]), w[3]);
        }
    }

    private static void moveIsTheFirstOfTheBest() {
        QuarrelKeys x = Check.with(THREE + "stair b c;stair a b;stair a c;like a c 9;like a b 9;");
        // both of his stairs bring a 9, but b stays where he likes it as well
        Check.fine(x, "moveOf(0, 1, 1)", x.moveOf(0, 1, 1), 1);
        x.tell(0, 2, 8);
        x.tell(0, 1, 7);
        Check.fine(x, "moveOf(0, 1, 1) to the better", x.moveOf(0, 1, 1), 2);
        x.tell(0, 2, 5);
        x.tell(0, 1, 5);
        Check.fine(x, "moveOf(0, 1, 1): a stair that is as good as nothing", x.moveOf(0, 1, 1), 1);
        Check.fine(x, "moveOf(1, 0, 4): all alike", x.moveOf(1, 0, 4), 0);
        Check.due("lives behind moves", Check.lives(x), "012");
        x.tell(0, 1, 4);
        Check.fine(x, "moveOf(0, 1, 1): not where he loses", x.moveOf(0, 1, 1), 2);
        moveLooksAhead();
    }

    private static void moveLooksAhead() {
        // a takes c (9) by stair 1, but then b can take a (9), too; by stair 2 a gets d (8)
        QuarrelKeys x = Check.with(FOUR + "stair b c;stair a c;stair a d;like a c 9;like a d 8;like a b 0;like a a 0;"
            + "like b a 9;");
        Check.fine(x, "moveOf(0, 1, 1)", x.moveOf(0, 1, 1), 1);
        Check.fine(x, "moveOf(0, 1, 2)", x.moveOf(0, 1, 2), 2);
        Check.fine(x, "game(0, 1, 2)", x.game(0, 1, 2), 3);
        // nothing is best, for the game ends before b can take c (9)
        QuarrelKeys y = Check.with(THREE + "stair a c;stair b c;like a a 9;like b c 9;");
        Check.refused(y, "moveOf(0, 1, 1)", z -> z.moveOf(0, 1, 1), 8);
    }

    private static void moveIsRefused() {
        QuarrelKeys x = Check.with(THREE + "stair a b;like a b 4;");
        Check.refused(x, "moveOf(0, 1, 0)", y -> y.moveOf(0, 1, 0), 5);
        Check.refused(x, "moveOf(0, 1, 1): nothing is better", y -> y.moveOf(0, 1, 1), 8);
        Check.refused(x, "moveOf(2, 1, 3): he has no stair", y -> y.moveOf(2, 1, 3), 8);
        Check.refused(x, "moveOf(2, 2, 0)", y -> y.moveOf(2, 2, 0), 5);
    }

    private static void odds(QuarrelKeys x, int person, int house, int k, long top, long bottom) {
        String call = "drift(" + person + ", " + house + ", " + k + ")";
        Check.fine(x, call, x.drift(person, house, k));
        Check.due("top() of " + call, x.top(), top);
        Check.due("bottom() of " + call, x.bottom(), bottom);
    }

    private static void driftTellsOdds() {
        QuarrelKeys x = Check.with(THREE + "stair a b;stair b c;");
        odds(x, 0, 0, 0, 1, 1);
        odds(x, 0, 1, 0, 0, 1);
        odds(x, 0, 0, 1, 1, 2);
        odds(x, 0, 2, 1, 0, 1);
        odds(x, 1, 1, 1, 0, 1);
        odds(x, 0, 0, 2, 1, 2);
        // ab bc: 120, bc ab: 201
        odds(x, 0, 2, 2, 1, 4);
        odds(x, 0, 1, 2, 1, 4);
        odds(x, 1, 1, 2, 1, 2);
        odds(x, 2, 2, 3, 3, 8);
        x.swap(0, 1);
        odds(x, 0, 1, 0, 1, 1);
        odds(x, 0, 1, 1, 1, 2);
        odds(x, 2, 0, 1, 1, 2);
        QuarrelKeys one = Check.with(TWO + "stair a b;");
        odds(one, 0, 1, 5, 1, 1);
        odds(one, 0, 0, 5, 0, 1);
        // ten stairs among five, all alike: the odds of having moved are (1 - (1/2)^k) * 4/5
        QuarrelKeys all = Check.with(FOUR + "person e;stair a b;stair a c;stair a d;stair a e;stair b c;stair b d;"
            + "stair b e;stair c d;stair c e;stair d e;");
        odds(all, 0, 4, 5, 31, 160);
        odds(all, 3, 3, 5, 9, 40);
    }

    private static void driftIsRefused() {
        QuarrelKeys x = Check.with(TWO + "stair a b;");
        odds(x, 0, 1, 1, 1, 1);
        int[][] wrong = {{-1, 0, 1, 2}, {0, -1, 1, 2}, {2, 0, 9, 2}, {0, 2, 1, 2}, {0, 1, -1, 5}, {0, 1, 6, 5},
            {0, 1, Integer.MAX_VALUE, 5}};
        for (int[] w : wrong) {
            Check.denied(x, "drift(" + w[0] + ", " + w[1] + ", " + w[2] + ")", y -> y.drift(w[0], w[1], w[2]), w[3]);
        }
        Check.due("top() stays", x.top(), 1);
        QuarrelKeys none = Check.with(TWO);
        odds(none, 0, 0, 0, 1, 1);
        Check.denied(none, "drift(0, 0, 1) without stairs", y -> y.drift(0, 0, 1), 8);
        Check.denied(none, "drift(0, 0, 6) without stairs", y -> y.drift(0, 0, 6), 5);
        Check.denied(none, "drift(0, 2, 1) without stairs", y -> y.drift(0, 2, 1), 2);
    }
}
