/** Promises 48 to 50, boundary by boundary: DECADES as they are LIVED. */
public final class EdgesOfLivesTest {
    private static final String TWO = "person a;person b;stair a b;";
    private static final String MOST = "loop 99;night 1;night 1;night 1;end;";

    public static void main(String[] args) {
        promise48Seeds();
        promise48Tests();
        promise48Missed();
        promise48Nights();
        promise48Loops();
        promise48Stop();
        promise48AtMost300();
        promise48Draws();
        promise48DrawsGoOn();
        promise48OddsAtTheirEnds();
        promise48AnyThatCantBe();
        promise49Lived();
        promise49Refused();
        promise49Stays();
        promise50Mean();
        promise50AllStays();
        promise50Refused();
        Check.end("EdgesOfLivesTest");
    }

    private static void told(String edge, QuarrelKeys x, int... due) {
        for (int what = 0; what < due.length; what++) {
            Check.fine(x, "49 " + edge + ": lived(" + what + ")", x.lived(what), due[what]);
        }
    }

    private static void promise48Seeds() {
        Edge.Maker one = Edge.with(TWO, "night 1;");
        Edge.taken("48 seed 0", one, x -> x.live(0), 1);
        Edge.taken("48 seed 9,999", one, x -> x.live(9999), 1);
        Edge.taken("48 DECADES of no STEP", Edge.with(TWO, ""), x -> x.live(0), 0);
        Edge.taken("48 DECADES of nobody", Edge.with("", "any;night 1;stop;"), x -> x.live(0), 3);
        for (int seed : new int[] {-1, 10000, Edge.MIN, Edge.MAX}) {
            Edge.refused("48 live(" + seed + ")", Edge.FULL, x -> x.live(seed), 5);
            Edge.refused("48 live(" + seed + "): 5 ahead of 8", Edge.BARE, x -> x.live(seed), 5);
        }
        Edge.refused("48 no DECADES", Edge.BARE, x -> x.live(0), 8);
        Edge.refused("48 no DECADES of a QUARTER", Edge.with(TWO), x -> x.live(9999), 8);
        QuarrelKeys x = Check.with(TWO, "night 1;");
        Check.quarter(x, TWO);
        Check.refused(x, "48 a new QUARTER has none", y -> y.live(0), 8);
    }

    /** a has TEMPER 4 and lives in b's, STAIR 0 has GRUDGE 2. */
    private static void when(String test, boolean holds) {
        QuarrelKeys x = Check.with("person a temper 4;person b temper 0;person c temper 9;stair a b grudge 2;stair b c;"
            + "stair a c grudge 9;swap a b;", "when " + test + ";night 1;end;");
        Check.fine(x, "48 when " + test, x.live(0), holds ? 2 : 1);
        Check.fine(x, "48 nights of when " + test, x.lived(1), holds ? 1 : 0);
    }

    private static void promise48Tests() {
        when("home a", false);
        when("home c", true);
        when("lives a b", true);
        when("lives a a", false);
        when("lives b a", true);
        when("lives c c", true);
        when("lives c a", false);
        for (int much = 0; much <= 9; much++) {
            when("temper a < " + much, 4 < much);
            when("temper a = " + much, 4 == much);
            when("temper a > " + much, 4 > much);
            when("grudge 0 < " + much, 2 < much);
            when("grudge 0 = " + much, 2 == much);
            when("grudge 0 > " + much, 2 > much);
        }
        when("temper b < 0", false);
        when("temper b = 0", true);
        when("temper b > 0", false);
        when("temper c < 9", false);
        when("temper c = 9", true);
        when("temper c > 9", false);
        when("grudge 1 > 0", false);
        when("grudge 1 = 0", true);
        when("grudge 2 < 9", false);
        when("grudge 2 = 9", true);
    }

    private static void missed(String edge, String quarter, String decades, int... due) {
        QuarrelKeys x = Check.with(quarter, decades);
        Check.due("48 " + edge + ": a STEP that is MISSED counts as one", x.live(0) > 0, true);
        told(edge, x, due);
    }

    private static void promise48Missed() {
        missed("a quarrel by HEAT 6, COOL 5", "cool 5;" + TWO, "quarrel 0;", 0, 0, 1, 0, 0);
        missed("a quarrel by HEAT 6, COOL 6", "cool 6;" + TWO, "quarrel 0;", 1, 0, 0, 0, 0);
        missed("a quarrel by GRUDGE 8", "person a;person b;stair a b grudge 8;", "quarrel 0;quarrel 0;", 1, 0, 1, 0, 0);
        missed("a make by GRUDGE 1", "person a;person b;stair a b grudge 1;", "make 0;make 0;", 1, 0, 0, 1, 0);
        missed("a make by GRUDGE 0", TWO, "make 0;", 1, 0, 0, 0, 0);
        missed("a make that one would lose by", "person a;person b;stair a b grudge 1;like b a 4;", "make 0;", 1, 0, 0, 0, 0);
        missed("a calm to what it is", TWO, "calm a 3;calm a 4;calm a 4;calm a 3;", 2, 0, 0, 0, 0);
        missed("a calm to 0 and 9", TWO, "calm a 0;calm a 0;calm b 9;calm b 9;", 2, 0, 0, 0, 0);
        missed("any without STAIRS", "person a;", "any;any;", 2, 0, 0, 0, 0);
        missed("when, loop, stop are never MISSED", TWO, "when lives a b;any;end;loop 3;end;stop;", 0, 0, 0, 0, 0);
    }

    private static QuarrelKeys at(int night, String decades) {
        QuarrelKeys x = Check.with("person a;", decades);
        for (int left = night; left > 0; left -= Math.min(99, left)) {
            x.night(Math.min(99, left));
        }
        x.calm(0, 9);
        return x;
    }

    private static void nights(String edge, int from, String decades, int missed, int nights) {
        QuarrelKeys x = at(from, decades);
        x.live(0);
        told(edge, x, missed, nights, 0, 0, 0);
        Check.due("48 " + edge + ": NIGHT", x.many(4), from + nights);
        Check.due("48 " + edge + ": TEMPER", x.person(0, 0), Math.max(0, 9 - nights));
    }

    private static void promise48Nights() {
        nights("one night", 0, "night 1;", 0, 1);
        nights("40 nights", 0, "night 40;", 0, 40);
        nights("the last night", 9998, "night 1;", 0, 1);
        nights("one beyond the last", 9999, "night 1;", 1, 0);
        nights("40 to the last", 9959, "night 40;", 0, 40);
        nights("40 beyond the last, as a whole", 9960, "night 40;", 1, 0);
        nights("one that is left then", 9998, "night 2;night 1;night 1;", 2, 1);
    }

    private static void lived(String edge, String decades, int steps, int nights, int left) {
        QuarrelKeys x = Check.with("person a;person b;swap a b;person c;", decades);
        Check.fine(x, "48 " + edge + ": live", x.live(0), steps);
        Check.fine(x, "49 " + edge + ": NIGHTS", x.lived(1), nights);
        Check.fine(x, "49 " + edge + ": MISSED", x.lived(0), 0);
        Check.fine(x, "49 " + edge + ": left to be done", x.lived(4), left);
    }

    private static void promise48Loops() {
        lived("once", "loop 1;night 1;end;", 2, 1, 0);
        lived("twice", "loop 2;night 1;end;", 3, 2, 0);
        lived("99 times", "loop 99;night 1;end;", 100, 99, 0);
        lived("around nothing", "loop 99;end;", 1, 0, 0);
        lived("around nothing, then a STEP", "loop 1;end;night 1;", 2, 1, 0);
        lived("in a loop", "loop 2;loop 3;night 1;end;end;", 1 + 2 + 6, 6, 0);
        lived("in two loops", "loop 2;loop 2;loop 2;night 1;end;end;end;", 1 + 2 + 4 + 8, 8, 0);
        lived("in two loops, around nothing", "loop 2;loop 3;loop 99;end;end;end;", 1 + 2 + 6, 0, 0);
        lived("two behind one another", "loop 2;night 1;end;loop 3;night 1;end;", 3 + 4, 5, 0);
        lived("a when in a loop counts each time", "loop 3;when home a;night 1;end;end;", 1 + 3, 0, 0);
        lived("a when that holds, in a loop", "loop 3;when home c;night 1;end;end;", 1 + 3 + 3, 3, 0);
        lived("a loop in a when that does not hold", "when home a;loop 99;night 1;end;end;night 1;", 2, 1, 0);
        lived("a when within a when that does not hold", "when home a;when home c;night 1;end;end;night 1;", 2, 1, 0);
        lived("a when around nothing", "when home c;end;when home a;end;", 2, 0, 0);
        // the same loop is begun anew each time it is come to from ahead
        lived("begun anew", "loop 3;loop 2;night 1;end;night 2;end;", 1 + 3 + 6 + 3, 12, 0);
    }

    private static void promise48Stop() {
        lived("stop alone", "stop;", 1, 0, 0);
        lived("stop ahead of a STEP", "stop;night 1;", 1, 0, 0);
        lived("stop in a loop", "loop 99;stop;end;night 1;", 2, 0, 0);
        lived("stop in three", "loop 9;loop 9;when home c;stop;end;end;end;night 1;", 4, 0, 0);
        lived("stop that is not come to", "when home a;stop;end;night 1;", 2, 1, 0);
    }

    private static void promise48AtMost300() {
        lived("298", MOST, 298, 297, 0);
        lived("299", MOST + "night 1;", 299, 298, 0);
        lived("300", MOST + "night 1;night 1;", 300, 299, 0);
        lived("301", MOST + "night 1;night 1;night 1;", 300, 299, 1);
        lived("a 301st that is stop", MOST + "night 1;night 1;stop;", 300, 299, 1);
        lived("a 301st that is when", MOST + "night 1;night 1;when home a;end;", 300, 299, 1);
        lived("a 301st that is loop", MOST + "night 1;night 1;loop 1;end;", 300, 299, 1);
        lived("a 300th that is stop", MOST + "night 1;stop;night 1;", 300, 298, 0);
        lived("a 300th that is a loop around nothing", MOST + "night 1;loop 99;end;", 300, 298, 0);
        lived("a 300th that is a loop", MOST + "night 1;loop 1;night 1;end;", 300, 298, 1);
        lived("a 300th that is a when around nothing", MOST + "night 1;when home c;end;", 300, 298, 0);
        lived("a 300th that is a when that does not hold", MOST + "night 1;when home a;night 1;end;", 300, 298, 0);
        lived("a 300th that is a when that holds", MOST + "night 1;when home c;night 1;end;", 300, 298, 1);
        lived("ends behind the 300th", "loop 1;" + MOST + "night 1;end;", 300, 298, 0);
        lived("an end behind the 300th that goes around", "loop 2;" + MOST + "night 1;end;", 300, 298, 1);
        lived("three ends behind the 300th", "loop 1;loop 1;" + MOST + "end;end;", 300, 297, 0);
        lived("three ends behind the 300th, the last goes around", "loop 2;loop 1;" + MOST + "end;end;", 300, 297, 1);
        lived("99 by 99 by 99", "loop 99;loop 99;loop 99;night 1;end;end;end;", 300, 99 + 99 + 97, 1);
        lived("99 by 99 by 99 around nothing", "loop 99;loop 99;loop 99;end;end;end;", 300, 0, 1);
        QuarrelKeys x = Check.with(TWO, "loop 99;calm a 3;calm a 3;calm a 3;end;quarrel 0;make 0;quarrel 0;");
        Check.fine(x, "48 MISSED STEPS count", x.live(0), 300);
        told("MISSED STEPS count", x, 297, 0, 1, 1, 1);
    }

    private static final int[][] PAIRS = {{0, 1}, {1, 2}, {2, 3}, {3, 4}, {4, 5}, {5, 6}, {0, 2}, {0, 3}, {0, 4}, {0, 5}};

    private static String stairs(int many) {
        StringBuilder text = new StringBuilder("cool 0;" + Edge.SEVEN);
        for (int s = 0; s < many; s++) {
            text.append("stair ").append((char) ('a' + PAIRS[s][0])).append(' ').append((char) ('a' + PAIRS[s][1])).append(" grudge 4;");
        }
        return text.toString();
    }

    /** By hand: the next s. */
    private static long next(long s) {
        return java.math.BigInteger.valueOf(s).multiply(java.math.BigInteger.valueOf(2971)).add(java.math.BigInteger.valueOf(10949))
            .mod(java.math.BigInteger.valueOf(65536)).longValue();
    }

    private static void promise48Draws() {
        for (int many = 1; many <= 10; many++) {
            QuarrelKeys x = Check.with(stairs(many), "any;");
            x.mark();
            for (int seed : new int[] {0, 1, 2, 3, 17, 21, 22, 255, 4095, 5000, 8191, 9998, 9999}) {
                long s = next(seed);
                int stair = (int) (s / 8 % many);
                int draw = (int) (next(s) / 8 % 16);
                for (int odds : new int[] {draw, Math.min(16, draw + 1)}) {
                    x.rule(2, odds);
                    Check.fine(x, "48 live(" + seed + ")", x.live(seed), 1);
                    Check.due("48 seed " + seed + ", STAIR " + stair + " of " + many + " by draw " + draw + ", ODDS " + odds,
                        x.stair(stair, 2), draw < odds ? 5 : 3);
                    Check.due("48 no other STAIR", x.many(9), 4 * many + (draw < odds ? 1 : -1));
                    x.back();
                    x.mark();
                }
            }
        }
    }

    /** A run of draws: s goes through all that is left by 65,536. */
    private static void promise48DrawsGoOn() {
        for (int seed : new int[] {0, 7, 1234, 9999}) {
            QuarrelKeys x = Check.with("odds 7;" + stairs(10), "loop 99;any;end;");
            int[] grudges = new int[10];
            java.util.Arrays.fill(grudges, 4);
            long s = seed;
            int missed = 0;
            for (int i = 0; i < 99; i++) {
                s = next(s);
                int stair = (int) (s / 8 % 10);
                s = next(s);
                boolean quarrels = s / 8 % 16 < 7;
                // all LIKE all alike, COOL is 0: GRUDGE alone is in the way
                boolean can = quarrels ? grudges[stair] < 9 : grudges[stair] > 0;
                missed += can ? 0 : 1;
                grudges[stair] += can ? quarrels ? 1 : -1 : 0;
            }
            Check.fine(x, "48 99 any by seed " + seed, x.live(seed), 100);
            Check.due("48 MISSED by seed " + seed, x.lived(0), missed);
            for (int stair = 0; stair < 10; stair++) {
                Check.due("48 GRUDGE of " + stair + " by seed " + seed, x.stair(stair, 2), grudges[stair]);
            }
        }
    }

    private static void promise48OddsAtTheirEnds() {
        for (int seed = 0; seed < 60; seed++) {
            QuarrelKeys never = Check.with("odds 0;" + stairs(3), "any;any;");
            never.live(seed);
            Check.due("48 ODDS 0: no QUARREL", never.lived(2), 0);
            Check.due("48 ODDS 0: MAKINGS UP", never.lived(3), 2);
            QuarrelKeys ever = Check.with("odds 16;" + stairs(3), "any;any;");
            ever.live(seed);
            Check.due("48 ODDS 16: QUARRELS", ever.lived(2), 2);
            Check.due("48 ODDS 16: no MAKING UP", ever.lived(3), 0);
        }
    }

    private static void promise48AnyThatCantBe() {
        // seed 0: the draws by two are 0 (1368), then 1 (3681), each ahead of a draw by 16
        String cool = "odds 16;cool 0;person a temper 0;person b temper 0;person c;stair a b;stair b c;";
        QuarrelKeys x = Check.with(cool, "any;any;");
        x.live(0);
        told("an any that can't be has drawn", x, 1, 0, 1, 0, 0);
        Check.due("48 lives", Check.lives(x), "021");
        // without STAIRS there are no draws: the first draws come when there are some, in a life of its own
        QuarrelKeys y = Check.with("odds 16;cool 0;person a;person b;person c;", "any;any;");
        y.live(0);
        told("any without STAIRS", y, 2, 0, 0, 0, 0);
        y.build(0, 1);
        y.build(1, 2);
        y.live(0);
        Check.due("48 each life begins with its seed", Check.lives(y), "120");
    }

    private static void promise49Lived() {
        QuarrelKeys x = Check.with("cool 0;" + TWO, "quarrel 0;quarrel 0;make 0;night 40;night 2;calm a 0;calm a 0;");
        // b and a are HOME when nights come by two QUARRELS, a MAKE UP: away, all LIKED alike: they cool to 0
        Check.fine(x, "49 live", x.live(0), 7);
        told("all", x, 2, 42, 2, 1, 0);
        Check.fine(x, "49 live again", x.live(0), 7);
        // HEAT is 0 and twice GRUDGE 1: above COOL 0
        told("again: only what this one did", x, 2, 42, 2, 1, 0);
        Check.due("49 all together stand in many()", x.many(4) * 100 + x.many(5) * 10 + x.many(6), 8442);
        QuarrelKeys none = Check.with("", "");
        Check.fine(none, "49 live of no STEP", none.live(0), 0);
        told("of no STEP", none, 0, 0, 0, 0, 0);
    }

    private static void promise49Refused() {
        for (int what : new int[] {-1, 5, Edge.MIN, Edge.MAX}) {
            Edge.refused("49 lived(" + what + ")", Edge.FULL, x -> x.lived(what), 5);
            Edge.refused("49 lived(" + what + "): 5 ahead of 8", Edge.BARE, x -> x.lived(what), 5);
        }
        for (int w = 0; w < 5; w++) {
            int what = w;
            Edge.refused("49 there was none: lived(" + w + ")", Edge.BARE, x -> x.lived(what), 8);
            Edge.refused("49 there was none with DECADES: lived(" + w + ")", Edge.SOME, x -> x.lived(what), 8);
        }
        QuarrelKeys x = Check.with(TWO);
        x.live(0);
        x.live(10000);
        Check.refused(x, "49 refused ones are none", y -> y.lived(0), 8);
        Check.decades(x, "night 1;");
        x.mean(0, 20);
        Check.refused(x, "49 a mean is none", y -> y.lived(0), 8);
    }

    private static void promise49Stays() {
        QuarrelKeys x = Check.with("cool 0;" + TWO, "quarrel 0;night 3;make 0;make 0;");
        x.live(5);
        told("the latest", x, 1, 3, 1, 1, 0);
        x.live(-1);
        x.live(10000);
        told("behind one with STATUS 5", x, 1, 3, 1, 1, 0);
        x.mean(0, 20);
        told("behind mean", x, 1, 3, 1, 1, 0);
        x.mark();
        x.quarrel(0);
        x.night(9);
        told("behind other deeds", x, 1, 3, 1, 1, 0);
        Check.decades(x, "night 7;");
        told("behind new DECADES", x, 1, 3, 1, 1, 0);
        Check.quarter(x, "");
        x.live(0);
        told("behind a new QUARTER, and one with STATUS 8", x, 1, 3, 1, 1, 0);
        x.back();
        told("behind back()", x, 1, 3, 1, 1, 0);
    }

    private static void mean(String edge, Edge.Maker maker, int seed, int many, long top, long bottom) {
        QuarrelKeys x = maker.make();
        Check.fine(x, "50 " + edge, x.mean(seed, many));
        Check.due("50 " + edge + ": top()", x.top(), top);
        Check.due("50 " + edge + ": bottom()", x.bottom(), bottom);
    }

    private static void promise50Mean() {
        mean("nobody", Edge.with("", ""), 0, 1, 0, 1);
        mean("nobody HOME is 0 by 1", Edge.with("person a;person b;swap a b;", ""), 0, 20, 0, 1);
        mean("all seven HOME", Edge.with(Edge.SEVEN, ""), 9980, 20, 7, 1);
        mean("the last seed", Edge.with(Edge.SEVEN, ""), 9999, 1, 7, 1);
        mean("the first seed", Edge.with(Edge.SEVEN, "stop;"), 0, 1, 7, 1);
        // by hand: any on one of two STAIRS; STAIR 0 alone brings a and b HOME
        String text = "odds 16;cool 0;person a;person b;person c;stair a b;stair b c;swap a b;";
        for (int from : new int[] {0, 3, 100, 9980}) {
            for (int many : new int[] {1, 2, 3, 7, 19, 20}) {
                int home = 0;
                for (int i = 0; i < many; i++) {
                    // 3 HOME by STAIR 0, none by STAIR 1: a in b's, b in c's, c in a's
                    home += next(from + i) / 8 % 2 == 0 ? 3 : 0;
                }
                int divisor = java.math.BigInteger.valueOf(home).gcd(java.math.BigInteger.valueOf(many)).intValue();
                mean("seeds " + from + " to " + (from + many - 1), Edge.with(text, "any;"), from, many, home / divisor, many / divisor);
            }
        }
        // each seed begins with all as it is now
        mean("each seed anew", Edge.with("cool 0;" + TWO + "person c;", "quarrel 0;"), 0, 20, 1, 1);
    }

    private static void promise50AllStays() {
        QuarrelKeys x = Edge.FULL.make();
        Check.fine(x, "50 mean", x.mean(0, 20));
        QuarrelKeys twin = Edge.FULL.make();
        Check.due("50 all stays but the FRACTION", Edge.allOf(x).replaceFirst("^\\S+", ""), Edge.allOf(twin).replaceFirst("^\\S+", ""));
    }

    private static void promise50Refused() {
        int[][] wrong = {{0, 0}, {0, -1}, {0, 21}, {0, Edge.MIN}, {0, Edge.MAX}, {-1, 1}, {-1, 2}, {-20, 20}, {10000, 1}, {9999, 2},
            {9980, 21}, {9981, 20}, {9990, 11}, {Edge.MIN, 1}, {Edge.MAX, 1}, {Edge.MAX, 20}, {Edge.MIN, 20}, {10000, 0}};
        for (int[] w : wrong) {
            Edge.denied("50 mean(" + w[0] + ", " + w[1] + ")", Edge.FULL, x -> x.mean(w[0], w[1]), 5);
            Edge.denied("50 mean(" + w[0] + ", " + w[1] + "): 5 ahead of 8", Edge.BARE, x -> x.mean(w[0], w[1]), 5);
        }
        Edge.denied("50 no DECADES", Edge.BARE, x -> x.mean(0, 1), 8);
        Edge.denied("50 no DECADES of a QUARTER", Edge.with(TWO), x -> x.mean(9980, 20), 8);
        Edge.done("50 the last seed is 9,999", Edge.FULL, x -> x.mean(9980, 20));
        Edge.done("50 the last seed is 9,999, of one", Edge.FULL, x -> x.mean(9999, 1));
    }
}
