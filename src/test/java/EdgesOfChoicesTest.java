/** Promises 39 to 47, boundary by boundary: who would rather, games, odds. */
public final class EdgesOfChoicesTest {
    private static final String TWO = "person a;person b;";
    private static final String THREE = TWO + "person c;";
    private static final String FOUR = THREE + "person d;";
    private static final int[] NOBODIES = {-1, 7, 8, Edge.MIN, Edge.MAX};

    public static void main(String[] args) {
        promise39Trade();
        promise40And41Best();
        promise39To41AskedAgain();
        promise40And41ByHand();
        promise39And41Refused();
        promise42Envy();
        promise43Vote();
        promise44Winner();
        promise45Game();
        promise45And46Refused();
        promise46Move();
        promise45And46ByHand();
        promise47Drift();
        promise47Refused();
        Check.end("EdgesOfChoicesTest");
    }

    private static void traded(String edge, String text, String due) {
        for (int p = 0; p < due.length(); p++) {
            int person = p;
            Edge.taken("39 " + edge + ": trade(" + p + ")", Edge.with(text), x -> x.trade(person), due.charAt(p) - '0');
        }
    }

    private static void promise39Trade() {
        traded("one alone", "person a;like a a 0;", "0");
        traded("all alike, the first of several", Edge.SEVEN, "0123456");
        traded("one more by 1", THREE + "like a b 6;like b a 6;", "102");
        traded("of several the first", THREE + "like a c 9;like a b 9;like b a 9;like c a 9;", "102");
        traded("LIKED 0 of those left", THREE + "like a a 0;like a b 0;like a c 0;like b b 9;like c c 9;", "012");
        traded("a ring of seven", Edge.SEVEN + "like a b 6;like b c 6;like c d 6;like d e 6;like e f 6;like f g 6;like g a 6;", "1234560");
        traded("a ring of seven the other way",
            Edge.SEVEN + "like a g 6;like b a 6;like c b 6;like d c 6;like e d 6;like f e 6;like g f 6;", "6012345");
        // who points into a ring is not in it: c points at a, who has a ring with b
        traded("one who points into a ring", THREE + "like a b 9;like b a 9;like c a 9;like c c 0;like c b 1;", "102");
        // a chain that ends in one who points at himself: six rounds more
        traded("seven rounds", Edge.SEVEN + "like a a 9;like b a 9;like c a 9;like c b 8;like d a 9;like d b 8;like d c 7;"
            + "like e a 9;like e b 9;like e c 9;like e d 9;like f a 9;like f b 8;like f c 7;like f d 7;like f e 7;"
            + "like g a 9;like g b 9;like g c 8;like g d 8;like g e 8;like g f 8;", "0123456");
        traded("where all live does not count", THREE + "like a b 6;like b a 6;swap a c;swap b c;", "102");
        // two rings of one round, then one whose first and second choice are gone
        traded("what is left", Edge.SEVEN + "like a b 9;like b a 9;like c d 9;like d c 9;like e a 9;like e c 8;like e g 7;like g e 9;"
            + "like f a 9;", "1032654");
    }

    private static void given(String edge, String text, int sum, String due) {
        Edge.taken("40 " + edge + ": best()", Edge.with(text), x -> x.best(), sum);
        for (int p = 0; p < due.length(); p++) {
            int person = p;
            Edge.taken("41 " + edge + ": bestOf(" + p + ")", Edge.with(text), x -> x.bestOf(person), due.charAt(p) - '0');
        }
    }

    private static String allLike(int much) {
        StringBuilder text = new StringBuilder(Edge.SEVEN);
        for (char p = 'a'; p <= 'g'; p++) {
            for (char h = 'a'; h <= 'g'; h++) {
                text.append("like ").append(p).append(' ').append(h).append(much).append(';');
            }
        }
        return text.toString();
    }

    private static void promise40And41Best() {
        given("nobody", "", 0, "");
        given("one", "person a;", 5, "0");
        given("all alike, the first way", Edge.SEVEN, 35, "0123456");
        given("all by 0", allLike(0), 0, "0123456");
        given("all by 9", allLike(9), 63, "0123456");
        given("the last way alone",
            Edge.SEVEN + "like a g 6;like b f 6;like c e 6;like d d 6;like e c 6;like f b 6;like g a 6;", 42, "6543210");
        given("one gives up what he LIKES most", TWO + "like a a 6;like b a 9;like b b 0;", 14, "10");
        // two ways of 16: 021 and 120; the first by HOUSES
        given("of several ways the first", THREE + "like c b 6;", 16, "021");
        given("of several ways the first by the second one", FOUR + "like a b 9;like d a 6;", 25, "1230");
        given("where all live does not count", THREE + "swap a c;", 15, "012");
    }

    /** What was reckoned for more PEOPLE, or other LIKINGS, must not count. */
    private static void promise39To41AskedAgain() {
        QuarrelKeys x = Check.with(allLike(9));
        Check.fine(x, "40 seven by 9", x.best(), 63);
        Check.fine(x, "39 seven by 9", x.trade(6), 6);
        for (int people = 6; people >= 1; people--) {
            Check.quarter(x, Edge.SEVEN.substring(0, 9 * people));
            Check.fine(x, "40 best() of " + people, x.best(), 5 * people);
            Check.fine(x, "41 the last of " + people, x.bestOf(people - 1), people - 1);
            Check.fine(x, "39 the last of " + people, x.trade(people - 1), people - 1);
        }
        x.quarter(0);
        Check.fine(x, "40 nobody left", x.best(), 0);
    }

    /** By hand: all ways to give three HOUSES; of several the first. */
    private static void promise40And41ByHand() {
        int[][] ways = {{0, 1, 2}, {0, 2, 1}, {1, 0, 2}, {1, 2, 0}, {2, 0, 1}, {2, 1, 0}};
        QuarrelKeys x = Check.with(THREE);
        for (int i = 0; i < 19683; i += 7) {
            int[] likes = new int[9];
            for (int j = 0, left = i; j < 9; j++, left /= 3) {
                likes[j] = 4 + left % 3;
                x.tell(j / 3, j % 3, likes[j]);
            }
            int best = -1;
            int[] way = null;
            for (int[] w : ways) {
                int sum = likes[w[0]] + likes[3 + w[1]] + likes[6 + w[2]];
                way = sum > best ? w : way;
                best = Math.max(best, sum);
            }
            Check.due("40 best() by LIKINGS " + i, x.best(), best);
            for (int p = 0; p < 3; p++) {
                Check.due("41 bestOf(" + p + ") by LIKINGS " + i, x.bestOf(p), way[p]);
            }
        }
    }

    private static void promise39And41Refused() {
        for (int p : NOBODIES) {
            Edge.refused("39 trade(" + p + ")", Edge.FULL, x -> x.trade(p), 2);
            Edge.refused("41 bestOf(" + p + ")", Edge.FULL, x -> x.bestOf(p), 2);
        }
        Edge.refused("39 a fourth of three", Edge.SOME, x -> x.trade(3), 2);
        Edge.refused("41 a fourth of three", Edge.SOME, x -> x.bestOf(3), 2);
        Edge.refused("39 nobody", Edge.BARE, x -> x.trade(0), 2);
        Edge.refused("41 nobody", Edge.BARE, x -> x.bestOf(0), 2);
    }

    private static void envy(String edge, String text, int due) {
        Edge.taken("42 " + edge, Edge.with(text), x -> x.envy(), due);
    }

    private static void promise42Envy() {
        envy("nobody", "", 0);
        envy("one", "person a;like a a 0;", 0);
        envy("all alike", Edge.SEVEN, 0);
        envy("more by 1", TWO + "like a b 6;", 1);
        envy("both", TWO + "like a b 6;like b a 6;", 2);
        envy("both have what they LIKE", TWO + "like a b 6;like b a 6;swap a b;", 0);
        envy("as much is not more", TWO + "like a b 9;like a a 9;", 0);
        String all = Edge.SEVEN + "like a a 0;like b b 0;like c c 0;like d d 0;like e e 0;like f f 0;like g g 0;";
        envy("all of all", all, 42);
        envy("all of all but those who have gone", all + "swap a g;", 5 * 6);
        envy("the HOUSE where the other one lives, not his own", THREE + "like a c 9;swap b c;", 1);
    }

    private static void promise43Vote() {
        Edge.Maker x = Edge.with(Edge.SEVEN + "like a g 6;like b g 6;like c g 6;like d g 4;like e g 9;like e a 9;");
        Edge.taken("43 the last one's against the first one's", x, y -> y.vote(6, 0), 3);
        Edge.taken("43 the first one's against the last one's", x, y -> y.vote(0, 6), 1);
        Edge.taken("43 the last one's against another one's", x, y -> y.vote(6, 5), 4);
        Edge.taken("43 none", x, y -> y.vote(1, 2), 0);
        String all = Edge.SEVEN + "like a a 6;like b a 6;like c a 6;like d a 6;like e a 6;like f a 6;like g a 6;";
        Edge.taken("43 all", Edge.with(all), y -> y.vote(0, 6), 7);
        Edge.taken("43 all, where they live does not count", Edge.with(all + "swap a g;"), y -> y.vote(0, 6), 7);
        for (int p : NOBODIES) {
            Edge.refused("43 vote(" + p + ", 0)", Edge.FULL, y -> y.vote(p, 0), 2);
            Edge.refused("43 vote(0, " + p + ")", Edge.FULL, y -> y.vote(0, p), 2);
            Edge.refused("43 vote(" + p + ", " + p + "): 2 ahead of 5", Edge.FULL, y -> y.vote(p, p), 2);
        }
        for (int h = 0; h < 7; h++) {
            int house = h;
            Edge.refused("43 vote(" + h + ", " + h + ")", Edge.FULL, y -> y.vote(house, house), 5);
        }
        Edge.refused("43 a fourth of three", Edge.SOME, y -> y.vote(0, 3), 2);
        Edge.refused("43 nobody", Edge.BARE, y -> y.vote(0, 0), 2);
    }

    private static void promise44Winner() {
        Edge.refused("44 nobody", Edge.BARE, x -> x.winner(), 8);
        Edge.taken("44 one", Edge.with("person a;like a a 0;"), x -> x.winner(), 0);
        Edge.refused("44 all alike", Edge.with(Edge.SEVEN), x -> x.winner(), 8);
        Edge.taken("44 more by one who LIKES it more by 1", Edge.with(TWO + "like a b 6;"), x -> x.winner(), 1);
        Edge.refused("44 one against one", Edge.with(TWO + "like a b 6;like b a 6;"), x -> x.winner(), 8);
        Edge.taken("44 two against one", Edge.with(THREE + "like a b 6;like b b 6;like c b 4;"), x -> x.winner(), 1);
        Edge.taken("44 the last one's", Edge.with(Edge.SEVEN + "like a g 6;"), x -> x.winner(), 6);
        Edge.taken("44 the first one's", Edge.with(Edge.SEVEN + "like g a 6;"), x -> x.winner(), 0);
        Edge.refused("44 more against all but one, as much against that one",
            Edge.with(THREE + "like a a 9;like a b 9;"), x -> x.winner(), 8);
        // a over b, b over c, c over a, by two of three each
        Edge.refused("44 a ring", Edge.with(THREE + "like a a 9;like a b 8;like a c 7;like b b 9;like b c 8;like b a 7;"
            + "like c c 9;like c a 8;like c b 7;"), x -> x.winner(), 8);
        // how many, not how much: b has two by a little, a one by much
        Edge.taken("44 how many, not how much", Edge.with(THREE + "like a a 9;like a b 0;like b b 6;like c b 6;like a c 0;like c c 0;"),
            x -> x.winner(), 1);
    }

    private static void game(String edge, String text, int person, int other, int turns, int due) {
        Edge.taken("45 " + edge, Edge.with(text), x -> x.game(person, other, turns), due);
    }

    private static void promise45Game() {
        game("the greatest", TWO + "like a a 9;like b b 0;", 0, 1, 0, 9);
        game("the least", TWO + "like a a 9;like b b 0;", 1, 0, 0, -9);
        game("-1 has STATUS 0", TWO + "like a a 4;", 0, 1, 0, -1);
        game("no turns: nothing is swapped", TWO + "stair a b;like a b 9;", 0, 1, 0, 0);
        game("one turn", TWO + "stair a b;like a b 9;", 0, 1, 1, 4);
        game("two turns: the second one swaps back", TWO + "stair a b;like a b 9;", 0, 1, 2, 0);
        game("three turns", TWO + "stair a b;like a b 9;", 0, 1, 3, 4);
        game("four turns", TWO + "stair a b;like a b 9;", 0, 1, 4, 0);
        game("without STAIRS", TWO + "like a b 9;", 0, 1, 4, 0);
        game("a STAIR of others", FOUR + "stair c d;like a b 9;", 0, 1, 4, 0);
        game("nothing is better", TWO + "stair a b;like a a 9;like b b 0;like b a 9;like a b 0;", 0, 1, 1, 9);
        game("the last one of seven", Edge.SEVEN + "stair f g;like g f 8;", 6, 0, 1, 3);
        game("the first one has it, the second one can't come to it", THREE + "stair a b;stair b c;like c b 9;like a b 9;", 0, 2, 4, 4);
        game("whatever HEAT, GRUDGE is", "cool 30;person a temper 0;person b temper 0;stair a b grudge 9;like a b 9;", 0, 1, 1, 4);
        QuarrelKeys x = Edge.FULL.make();
        String before = Edge.allOf(Edge.FULL.make());
        Check.fine(x, "45 four turns of a full one", x.game(0, 1, 4) * 0, 0);
        x.moveOf(0, 1, 4);
        x.moveOf(2, 4, 3);
        x.game(4, 3, 3);
        Check.due("45 KEYS are where they were", Edge.allOf(x), before);
    }

    private static void gameRefused(String edge, Edge.Maker maker, int person, int other, int turns, int status) {
        String args = "(" + person + ", " + other + ", " + turns + ")" + edge;
        Edge.refused("45 game" + args, maker, x -> x.game(person, other, turns), status);
        Edge.refused("46 moveOf" + args, maker, x -> x.moveOf(person, other, turns), status);
    }

    private static void promise45And46Refused() {
        for (int p : NOBODIES) {
            gameRefused("", Edge.FULL, p, 0, 1, 2);
            gameRefused("", Edge.FULL, 0, p, 1, 2);
            gameRefused(": 2 ahead of 5", Edge.FULL, p, p, 1, 2);
            gameRefused(": 2 ahead of 5", Edge.FULL, p, 0, 5, 2);
            gameRefused(": 2 ahead of 5", Edge.FULL, 0, p, -1, 2);
        }
        for (int p = 0; p < 7; p++) {
            gameRefused("", Edge.FULL, p, p, 1, 5);
        }
        for (int turns : new int[] {-1, 5, Edge.MIN, Edge.MAX}) {
            gameRefused("", Edge.FULL, 0, 1, turns, 5);
            gameRefused("", Edge.FULL, 6, 5, turns, 5);
            gameRefused("", Edge.FULL, 1, 1, turns, 5);
        }
        gameRefused("", Edge.SOME, 0, 3, 1, 2);
        gameRefused("", Edge.BARE, 0, 1, 1, 2);
        Edge.refused("46 turns 0", Edge.FULL, x -> x.moveOf(0, 1, 0), 5);
        Edge.refused("46 turns 0: 2 ahead of 5", Edge.FULL, x -> x.moveOf(0, 7, 0), 2);
        Edge.refused("46 one and himself, turns 0", Edge.FULL, x -> x.moveOf(0, 0, 0), 5);
        Edge.refused("46 5 ahead of 8", Edge.with(TWO), x -> x.moveOf(0, 1, 0), 5);
        Edge.refused("46 nothing: no STAIRS", Edge.with(TWO), x -> x.moveOf(0, 1, 1), 8);
        Edge.refused("46 nothing: no STAIR of his", Edge.with(FOUR + "stair b c;stair c d;"), x -> x.moveOf(0, 1, 4), 8);
        Edge.refused("46 nothing is better by 1", Edge.with(TWO + "stair a b;like a b 4;"), x -> x.moveOf(0, 1, 1), 8);
    }

    private static void promise46Move() {
        Edge.taken("46 as good as nothing: the STAIR", Edge.with(TWO + "stair a b;"), x -> x.moveOf(0, 1, 1), 0);
        Edge.taken("46 better by 1", Edge.with(TWO + "stair a b;like a b 6;"), x -> x.moveOf(0, 1, 1), 0);
        Edge.taken("46 of several the first",
            Edge.with(Edge.SEVEN + "stair b c;stair c a;stair a d;stair e a;like a c 7;like a d 7;like a e 7;"), x -> x.moveOf(0, 1, 1), 1);
        Edge.taken("46 the best, not the first",
            Edge.with(Edge.SEVEN + "stair b c;stair c a;stair a d;stair e a;like a c 7;like a d 7;like a e 8;"), x -> x.moveOf(0, 1, 1), 3);
        Edge.taken("46 the last of ten", Edge.with(Edge.SEVEN + "stair b c;stair b d;stair b e;stair b f;stair c d;stair c e;"
            + "stair c f;stair d e;stair d f;stair g a;like a g 9;"), x -> x.moveOf(0, 1, 1), 9);
        Edge.taken("46 four turns", Edge.with(TWO + "stair a b;"), x -> x.moveOf(1, 0, 4), 0);
        // the first one's: b has STAIR 0, a STAIR 1
        Edge.taken("46 the first one's STAIR, a", Edge.with(THREE + "stair b c;stair a c;"), x -> x.moveOf(0, 1, 1), 1);
        Edge.taken("46 the first one's STAIR, b", Edge.with(THREE + "stair b c;stair a c;"), x -> x.moveOf(1, 0, 1), 0);
        // a swap that is undone in the end: by four turns all is as good, the first STAIR counts
        Edge.refused("46 nothing comes last, but is the best", Edge.with(THREE + "stair a b;stair a c;like a a 9;"),
            x -> x.moveOf(0, 1, 1), 8);
    }

    /** By hand: a game is a tree of what each can do, the STAIRS of his and nothing. */
    private static int play(int[] lives, int[][] stairs, int[][] likes, int[] two, int turns, boolean first) {
        if (turns == 0) {
            return likes[two[0]][lives[two[0]]] - likes[two[1]][lives[two[1]]];
        }
        int mover = first ? two[0] : two[1];
        int best = play(lives, stairs, likes, two, turns - 1, !first);
        for (int[] s : stairs) {
            if (s[0] == mover || s[1] == mover) {
                int value = play(swapped(lives, s), stairs, likes, two, turns - 1, !first);
                best = first ? Math.max(best, value) : Math.min(best, value);
            }
        }
        return best;
    }

    private static int[] swapped(int[] lives, int[] stair) {
        int[] then = lives.clone();
        then[stair[0]] = lives[stair[1]];
        then[stair[1]] = lives[stair[0]];
        return then;
    }

    private static void promise45And46ByHand() {
        int[][] stairs = {{1, 2}, {0, 3}, {3, 2}, {0, 1}, {3, 1}};
        String text = FOUR + "stair b c;stair a d;stair d c;stair a b;stair d b;swap a c;";
        int[] lives = {2, 1, 0, 3};
        for (int i = 0; i < 40; i++) {
            QuarrelKeys x = Check.with(text);
            int[][] likes = new int[4][4];
            for (int j = 0; j < 16; j++) {
                likes[j / 4][j % 4] = (i * 37 + j * j * 11 + i * j * 5) % 10;
                x.tell(j / 4, j % 4, likes[j / 4][j % 4]);
            }
            int[] two = {i % 4, (i + 1 + i / 4 % 3) % 4};
            for (int turns = 0; turns <= 4; turns++) {
                String edge = "(" + two[0] + ", " + two[1] + ", " + turns + ") by LIKINGS " + i;
                int value = play(lives, stairs, likes, two, turns, true);
                Check.fine(x, "45 game" + edge, x.game(two[0], two[1], turns), value);
                if (turns == 0) {
                    continue;
                }
                int move = -1;
                for (int s = stairs.length - 1; s >= 0; s--) {
                    boolean his = stairs[s][0] == two[0] || stairs[s][1] == two[0];
                    if (his && play(swapped(lives, stairs[s]), stairs, likes, two, turns - 1, false) == value) {
                        move = s;
                    }
                }
                Check.due("46 moveOf" + edge, x.moveOf(two[0], two[1], turns), move);
                Check.due("46 STATUS of moveOf" + edge, x.status(), move < 0 ? 8 : 0);
            }
        }
    }

    private static void odds(String edge, Edge.Maker maker, int person, int house, int k, long top, long bottom) {
        QuarrelKeys x = maker.make();
        String call = "47 " + edge + ": drift(" + person + ", " + house + ", " + k + ")";
        Check.fine(x, call, x.drift(person, house, k));
        Check.due(call + ", top()", x.top(), top);
        Check.due(call + ", bottom()", x.bottom(), bottom);
    }

    private static void promise47Drift() {
        odds("k 0, where he lives", Edge.with(TWO + "swap a b;"), 0, 1, 0, 1, 1);
        odds("k 0, where he does not live", Edge.with(TWO + "swap a b;"), 0, 0, 0, 0, 1);
        odds("k 0 without STAIRS", Edge.with(Edge.SEVEN), 6, 6, 0, 1, 1);
        odds("k 1, one STAIR", Edge.with(TWO + "stair a b;"), 0, 1, 1, 1, 1);
        odds("k 5, one STAIR", Edge.with(TWO + "stair a b;"), 0, 1, 5, 1, 1);
        odds("k 5, one STAIR, his own", Edge.with(TWO + "stair a b;"), 0, 0, 5, 0, 1);
        odds("k 5, one who has no STAIR", Edge.with(THREE + "stair a b;"), 2, 2, 5, 1, 1);
        odds("k 5, one who can't be there", Edge.with(THREE + "stair a b;"), 2, 0, 5, 0, 1);
        odds("k 1, ten STAIRS, e lives in a's", Edge.with(Edge.FULL_TEXT), 5, 0, 1, 1, 10);
        odds("k 2, two STAIRS", Edge.with(THREE + "stair a b;stair b c;"), 0, 2, 2, 1, 4);
        odds("from where he lives", Edge.with(THREE + "stair a b;stair b c;swap a c;"), 0, 1, 1, 1, 2);
        odds("k 5, the greatest bottom", Edge.with(Edge.SEVEN + Edge.LINE + "stair b d;stair c g;stair e g;stair d f;"), 0, 0, 5,
            65011, 100000);
        driftByHand();
    }

    /** By hand: all ROWS of k of three STAIRS. */
    private static void driftByHand() {
        int[][] stairs = {{0, 1}, {1, 2}, {3, 1}};
        QuarrelKeys x = Check.with(FOUR + "stair a b;stair b c;stair d b;swap a d;");
        for (int k = 0; k <= 5; k++) {
            int rows = (int) Math.pow(3, k);
            long[][] there = new long[4][4];
            for (int number = 0; number < rows; number++) {
                int[] lives = {3, 1, 2, 0};
                for (int i = 0, left = number; i < k; i++, left /= 3) {
                    lives = swapped(lives, stairs[left % 3]);
                }
                for (int p = 0; p < 4; p++) {
                    there[p][lives[p]]++;
                }
            }
            for (int i = 0; i < 16; i++) {
                long top = there[i / 4][i % 4];
                Check.fine(x, "47 drift", x.drift(i / 4, i % 4, k));
                Check.due("47 drift(" + i / 4 + ", " + i % 4 + ", " + k + ")", x.top() * rows, top * x.bottom());
                Check.due("47 a common divisor", java.math.BigInteger.valueOf(x.top()).gcd(java.math.BigInteger.valueOf(x.bottom()))
                    .longValue(), 1);
            }
        }
    }

    private static void promise47Refused() {
        for (int p : NOBODIES) {
            Edge.denied("47 drift(" + p + ", 0, 1)", Edge.FULL, x -> x.drift(p, 0, 1), 2);
            Edge.denied("47 drift(0, " + p + ", 1)", Edge.FULL, x -> x.drift(0, p, 1), 2);
            Edge.denied("47 drift(" + p + ", 0, 6): 2 ahead of 5", Edge.FULL, x -> x.drift(p, 0, 6), 2);
        }
        for (int k : new int[] {-1, 6, Edge.MIN, Edge.MAX}) {
            Edge.denied("47 drift(0, 0, " + k + ")", Edge.FULL, x -> x.drift(0, 0, k), 5);
            Edge.denied("47 drift(0, 0, " + k + "): 5 ahead of 8", Edge.with(TWO), x -> x.drift(0, 0, k), 5);
        }
        for (int k = 1; k <= 5; k++) {
            int without = k;
            Edge.denied("47 no STAIRS, k " + k, Edge.with(TWO), x -> x.drift(0, 0, without), 8);
        }
        Edge.denied("47 2 ahead of 8", Edge.with(TWO), x -> x.drift(0, 2, 1), 2);
        Edge.denied("47 a fourth of three", Edge.SOME, x -> x.drift(3, 0, 1), 2);
        Edge.denied("47 nobody", Edge.BARE, x -> x.drift(0, 0, 0), 2);
    }
}
