/** Promises 11, 48, 49 and 50: DECADES as a text, how they are lived. */
public final class DecadesTest {
    private static final String TWO = "person a;person b;stair a b;";

    public static void main(String[] args) {
        decadesAreTaken();
        decadesAreRefused();
        tokensThatCantStand();
        anyTokenSpoiled();
        namesAndNumbersThatCantBe();
        oneTooMany();
        tooDeep();
        aFaultLeavesTheOldDecades();
        liveDoesSteps();
        whatCantBeIsMissed();
        nightsBeyondTheLast();
        anyDraws();
        testsHold();
        loopsGoAround();
        stopEnds();
        atMost300();
        whatIsToldIsOfOneLife();
        liveIsRefused();
        livedTells();
        newcomersAndNewStairs();
        meanOfHomes();
        meanIsRefused();
        Check.end("DecadesTest");
    }

    private static void taken(String text, int steps) {
        QuarrelKeys x = Check.with(TWO);
        Check.fine(x, "decades of \"" + text + "\"", Check.decades(x, text), steps);
        Check.due("fault(0) of \"" + text + "\"", x.fault(0), 0);
        Check.due("fault(1) of \"" + text + "\"", x.fault(1), -1);
    }

    private static void faulty(String text, int kind, int place) {
        QuarrelKeys x = Check.with(TWO);
        Check.due("decades of \"" + text + "\"", Check.decades(x, text), -1);
        Check.due("status() of \"" + text + "\"", x.status(), 10);
        Check.due("fault(0) of \"" + text + "\"", x.fault(0), kind);
        Check.due("fault(1) of \"" + text + "\"", x.fault(1), place);
    }

    private static void decadesAreTaken() {
        taken("", 0);
        taken(" \n", 0);
        taken("quarrel 0;make 0;night 1;night 40;calm a 0;calm b 9;any;stop;", 8);
        taken("when home a;end;when lives a b;any;end;when grudge 0<9;end;when temper b=0;end;when grudge 0>1;end;", 6);
        taken("loop 1;loop 99;loop 0050;any;end;end;end;", 4);
        taken("loop 1;when home a;loop 1;end;loop 1;end;end;when home b;when home a;any;end;end;end;", 7);
        taken("when temper a<3;end;when temper a > 3 ; end ;", 2);
        taken("when lives a a;end;", 1);
        QuarrelKeys x = Check.with(TWO);
        Check.feed(x, Check.bytes("stop;!!!"));
        Check.fine(x, "decades(5)", x.decades(5), 1);
        Check.refused(x, "decades(1) of the tape that is empty then", y -> y.decades(1), 5);
        // 300 bytes: blanks and one STEP
        Check.fine(x, "decades of 300 bytes", Check.decades(x, " ".repeat(295) + "stop;"), 1);
    }

    private static void decadesAreRefused() {
        QuarrelKeys x = Check.with(TWO);
        Check.feed(x, Check.bytes(" ".repeat(320)));
        for (int n : new int[] {-1, 301, 320, 321, Integer.MAX_VALUE, Integer.MIN_VALUE}) {
            Check.refused(x, "decades(" + n + ")", y -> y.decades(n), 5);
        }
        Check.fine(x, "decades(300)", x.decades(300), 0);
    }

    private static void tokensThatCantStand() {
        for (String word : new String[] {"odds 1;", "cool 1;", "person c;", "temper", "stair a b;", "grudge", "like a b 1;",
            "swap a b;", "home a;", "lives a b;", "end;", "go;", "1", ";", "<", "=", "abcdefghi"}) {
            faulty(word, 2, 0);
        }
        faulty("any;end;", 2, 4);
        faulty("loop 1;end;end;", 2, 11);
        faulty("quarrel", 2, 7);
        faulty("quarrel;", 2, 7);
        faulty("quarrel a;", 2, 8);
        faulty("quarrel 0", 2, 9);
        faulty("quarrel 0 0;", 2, 10);
        faulty("make;", 2, 4);
        faulty("night;", 2, 5);
        faulty("calm 0;", 2, 5);
        faulty("calm a;", 2, 6);
        faulty("calm a b;", 2, 7);
        faulty("calm any 1;", 2, 5);
        faulty("calm abcdefghi 1;", 2, 5);
        faulty("any 1;", 2, 4);
        faulty("any", 2, 3);
        faulty("stop stop;", 2, 5);
        faulty("when;", 2, 4);
        faulty("when a;", 2, 5);
        faulty("when 1;", 2, 5);
        faulty("when loop;", 2, 5);
        faulty("when home;", 2, 9);
        faulty("when home 0;", 2, 10);
        faulty("when home a", 2, 11);
        faulty("when home a b;", 2, 12);
        faulty("when lives a;", 2, 12);
        faulty("when lives a b", 2, 14);
        faulty("when grudge a = 1;", 2, 12);
        faulty("when grudge 0 1;", 2, 14);
        faulty("when grudge 0 ; 1;", 2, 14);
        faulty("when grudge 0 = a;", 2, 16);
        faulty("when grudge 0 =", 2, 15);
        faulty("when grudge 0 < = 1;", 2, 16);
        faulty("when temper 0 = 1;", 2, 12);
        faulty("when temper a 1;", 2, 14);
        faulty("when temper a = 1", 2, 17);
        faulty("loop;", 2, 4);
        faulty("loop a;", 2, 5);
        faulty("loop 1;", 2, 7);
        faulty("loop 1;any;  ", 2, 13);
        faulty("loop 1;end", 2, 10);
        faulty("loop 1;end 1;", 2, 11);
        faulty("when home a;any;", 2, 16);
        faulty("!", 1, 0);
        faulty("any;#", 1, 4);
        faulty("loop 12345;", 1, 5);
        faulty("quarrel 00000;", 1, 8);
        faulty("any\t;", 1, 3);
    }

    /** Each TOKEN of a text in turn is one that is none, one that can't stand there, or the end. */
    private static void anyTokenSpoiled() {
        String[] tokens = ("quarrel 0 ; make 0 ; night 1 ; calm a 1 ; any ; when home a ; when lives a b ; "
            + "when grudge 0 < 1 ; end ; end ; end ; when temper a = 1 ; end ; loop 2 ; any ; end ; stop ;").split(" ");
        String ahead = "";
        int open = 0;
        for (String token : tokens) {
            faulty(ahead + "! 1 ;", 1, ahead.length());
            faulty(ahead + "12345", 1, ahead.length());
            faulty(ahead + (token.equals("<") || token.equals("=") ? "a" : "< a ;"), 2, ahead.length());
            if (!ahead.isEmpty() && !ahead.endsWith("; ") || open > 0) {
                faulty(ahead, 2, ahead.length());
                faulty(ahead + "odds", 2, ahead.length());
            }
            open += token.equals("when") || token.equals("loop") ? 1 : token.equals("end") ? -1 : 0;
            ahead = ahead + token + " ";
        }
        taken(ahead, 12);
    }

    private static void namesAndNumbersThatCantBe() {
        faulty("calm c 1;", 3, 5);
        faulty("when home c;end;", 3, 10);
        faulty("when lives c a;end;", 3, 11);
        faulty("when lives a c;end;", 3, 13);
        faulty("when temper c = 1;end;", 3, 12);
        faulty("quarrel 1;", 4, 8);
        faulty("make 1;", 4, 5);
        faulty("make 9999;", 4, 5);
        faulty("night 0;", 4, 6);
        faulty("night 41;", 4, 6);
        faulty("calm a 10;", 4, 7);
        faulty("loop 0;end;", 4, 5);
        faulty("loop 100;end;", 4, 5);
        faulty("when grudge 1 = 1;end;", 4, 12);
        faulty("when grudge 0 = 10;end;", 4, 16);
        faulty("when temper a = 10;end;", 4, 16);
        QuarrelKeys x = Check.with("person a;person b;");
        Check.due("quarrel 0 without stairs", Check.decades(x, "quarrel 0;"), -1);
        Check.due("fault(0)", x.fault(0), 4);
        x.come();
        Check.due("a newcomer has no name", Check.decades(x, "when home c;end;"), -1);
        Check.due("fault(0)", x.fault(0), 3);
    }

    private static void oneTooMany() {
        String thirty = "any;".repeat(30);
        taken(thirty, 30);
        faulty(thirty + "any;", 6, 120);
        faulty(thirty + "stop", 6, 120);
        faulty(thirty + "loop", 6, 120);
        faulty(thirty + "odds", 2, 120);
        faulty(thirty + "end;", 2, 120);
        // end is none
        String loops = "loop 1;end;".repeat(15);
        taken("any;".repeat(15) + loops, 30);
        faulty("any;".repeat(15) + loops + "any;", 6, 225);
        taken("any;".repeat(14) + "loop 1;" + "loop 1;end;".repeat(15) + "end;", 30);
        // of one TOKEN the least kind: 6 comes ahead of 7
        faulty("any;".repeat(27) + "loop 1;loop 1;loop 1;loop 1;", 6, 129);
        faulty("any;".repeat(26) + "loop 1;loop 1;loop 1;loop 1;", 7, 125);
    }

    private static void tooDeep() {
        taken("loop 1;loop 1;loop 1;end;end;end;", 3);
        taken("when home a;loop 1;when home b;any;quarrel 0;end;end;end;", 5);
        faulty("loop 1;loop 1;loop 1;loop 1;end;end;end;end;", 7, 21);
        faulty("when home a;loop 1;when home b;when", 7, 31);
        faulty("loop 1;loop 1;end;loop 1;loop 1;loop", 7, 32);
        taken("loop 1;loop 1;end;loop 1;loop 1;end;loop 1;end;end;end;", 5);
    }

    private static void aFaultLeavesTheOldDecades() {
        QuarrelKeys x = Check.with(TWO, "night 2;night 3;");
        Check.due("faulty decades", Check.decades(x, "night 9;loop 1;"), -1);
        Check.due("status()", x.status(), 10);
        Check.refused(x, "the tape is empty", y -> y.decades(1), 5);
        Check.fine(x, "live(0)", x.live(0), 2);
        Check.fine(x, "nights", x.lived(1), 5);
        Check.fine(x, "decades in place of the old ones", Check.decades(x, "night 1;"), 1);
        Check.fine(x, "live(0)", x.live(0), 1);
        Check.fine(x, "nights", x.lived(1), 1);
    }

    private static void told(QuarrelKeys x, int missed, int nights, int quarrels, int makings, int left) {
        int[] due = {missed, nights, quarrels, makings, left};
        for (int what = 0; what < 5; what++) {
            Check.fine(x, "lived(" + what + ")", x.lived(what), due[what]);
        }
    }

    private static void liveDoesSteps() {
        QuarrelKeys x = Check.with("cool 5;" + TWO + "like a b 0;like b a 0;", "quarrel 0;night 2;calm b 7;make 0;");
        Check.fine(x, "live(0)", x.live(0), 4);
        told(x, 0, 2, 1, 1, 0);
        // both were away for two nights and unhappy (5 each), then b is calmed to 7
        Check.due("temper of a", x.person(0, 0), 5);
        Check.due("temper of b", x.person(1, 0), 7);
        Check.due("lives", Check.lives(x), "01");
        Check.due("night", x.many(4), 2);
        Check.due("grudges", x.many(9), 0);
        Check.fine(x, "live(0) again goes on from there", x.live(0), 4);
        told(x, 0, 2, 1, 1, 0);
        Check.due("night", x.many(4), 4);
        Check.due("quarrels", x.many(5), 2);
        QuarrelKeys none = Check.with("", "");
        Check.fine(none, "live(0) of no STEPS", none.live(0), 0);
        told(none, 0, 0, 0, 0, 0);
    }

    private static void whatCantBeIsMissed() {
        QuarrelKeys x = Check.with("cool 6;" + TWO, "quarrel 0;make 0;calm a 3;calm a 4;quarrel 0;calm a 4;");
        Check.fine(x, "live(0)", x.live(0), 6);
        told(x, 3 + 1, 0, 1, 0, 0);
        QuarrelKeys alone = Check.with("person a;", "any;any;night 1;");
        Check.fine(alone, "live(7) without stairs", alone.live(7), 3);
        told(alone, 2, 1, 0, 0, 0);
    }

    private static void nightsBeyondTheLast() {
        QuarrelKeys x = Check.with("person a;", "night 10;night 9;night 1;");
        for (int i = 0; i < 101; i++) {
            x.night(i < 100 ? 99 : 90);
        }
        Check.due("night", x.many(4), 9990);
        x.calm(0, 9);
        Check.fine(x, "live(0)", x.live(0), 3);
        told(x, 2, 9, 0, 0, 0);
        Check.due("night", x.many(4), 9999);
        Check.due("temper by nine nights", x.person(0, 0), 0);
    }

    private static void anyDraws() {
        // seed 0: s is 10949, then 34572: by 8 that is 1368 (stair 0 of 2), 4321 (1 by 16)
        String three = "cool 0;person a;person b;person c;stair a b grudge 1;stair b c grudge 1;";
        QuarrelKeys x = Check.with("odds 2;" + three, "any;");
        x.live(0);
        told(x, 0, 0, 1, 0, 0);
        Check.due("lives", Check.lives(x), "102");
        Check.due("grudge of stair 0", x.stair(0, 2), 2);
        QuarrelKeys less = Check.with("odds 1;" + three, "any;");
        less.live(0);
        told(less, 0, 0, 0, 1, 0);
        Check.due("lives", Check.lives(less), "102");
        Check.due("grudge of stair 0", less.stair(0, 2), 0);
        // seed 1: s is 13920, then 14053: by 8 that is 1740 (stair 0), 1756 (12 by 16)
        QuarrelKeys more = Check.with("odds 12;" + three, "any;");
        more.live(1);
        told(more, 0, 0, 0, 1, 0);
        QuarrelKeys most = Check.with("odds 13;" + three, "any;");
        most.live(1);
        told(most, 0, 0, 1, 0, 0);
        // seed 5: s is 25804: by 8 that is 3225, stair 1 of 2
        QuarrelKeys other = Check.with("odds 16;" + three, "any;");
        other.live(5);
        Check.due("lives", Check.lives(other), "021");
        // seed 9999: 9999 * 2971 + 10949 is 29717978, of that 30170 is left: by 8 that is 3771, stair 1
        QuarrelKeys last = Check.with("odds 16;" + three, "any;");
        Check.fine(last, "live(9999)", last.live(9999), 1);
        Check.due("lives", Check.lives(last), "021");
        // two draws each: the third of seed 0 is 29449, by 8 that is 3681, stair 1
        QuarrelKeys twice = Check.with("odds 16;" + three, "any;any;");
        twice.live(0);
        told(twice, 0, 0, 2, 0, 0);
        Check.due("lives", Check.lives(twice), "120");
        // odds 0: all are makings up, odds 16: all are quarrels
        QuarrelKeys never = Check.with("odds 0;" + three, "loop 20;any;end;");
        never.live(4);
        Check.fine(never, "quarrels by odds 0", never.lived(2), 0);
        QuarrelKeys ever = Check.with("odds 16;" + three, "loop 20;any;end;");
        ever.live(4);
        Check.fine(ever, "makings up by odds 16", ever.lived(3), 0);
        // an any that can't be has drawn all the same: stair 0 is too cool, then comes stair 1
        QuarrelKeys cool = Check.with("odds 16;cool 0;person a temper 0;person b temper 0;person c;stair a b;stair b c;",
            "any;any;");
        cool.live(0);
        told(cool, 1, 0, 1, 0, 0);
        Check.due("lives", Check.lives(cool), "021");
    }

    private static void when(String test, int due) {
        QuarrelKeys x = Check.with("person a temper 4;person b;person c;stair a b grudge 2;stair b c;swap a b;",
            "when " + test + ";night 1;end;");
        Check.fine(x, "live of when " + test, x.live(0), 1 + due);
        Check.fine(x, "nights of when " + test, x.lived(1), due);
    }

    private static void testsHold() {
        when("home a", 0);
        when("home c", 1);
        when("lives a b", 1);
        when("lives b a", 1);
        when("lives a a", 0);
        when("lives a c", 0);
        when("lives c c", 1);
        when("grudge 0 = 2", 1);
        when("grudge 0 = 1", 0);
        when("grudge 0 < 3", 1);
        when("grudge 0 < 2", 0);
        when("grudge 0 > 1", 1);
        when("grudge 0 > 2", 0);
        when("grudge 1 = 0", 1);
        when("temper a = 4", 1);
        when("temper a < 4", 0);
        when("temper a < 5", 1);
        when("temper a > 4", 0);
        when("temper a > 3", 1);
        when("temper b = 3", 1);
    }

    private static void lived(String decades, int steps, int nights, int left) {
        QuarrelKeys x = Check.with("person a;person b;swap a b;person c;", decades);
        Check.fine(x, "live of " + decades, x.live(0), steps);
        Check.fine(x, "nights of " + decades, x.lived(1), nights);
        Check.fine(x, "left of " + decades, x.lived(4), left);
    }

    private static void loopsGoAround() {
        lived("loop 1;night 1;end;night 1;", 3, 2, 0);
        lived("loop 3;night 1;end;", 4, 3, 0);
        lived("loop 3;loop 2;night 1;end;end;", 1 + 3 + 6, 6, 0);
        lived("loop 2;loop 3;loop 2;night 2;end;end;night 1;end;", 1 + 2 + 6 + 12 + 2, 26, 0);
        lived("loop 5;end;night 1;", 2, 1, 0);
        lived("loop 4;loop 9;end;end;night 1;", 1 + 4 + 1, 1, 0);
        lived("loop 3;when home c;night 1;end;end;", 1 + 3 + 3, 3, 0);
        lived("loop 3;when home a;night 1;end;end;", 1 + 3, 0, 0);
        lived("when home a;loop 3;night 1;end;night 9;end;night 1;", 2, 1, 0);
        lived("when home c;loop 3;night 1;end;night 9;end;night 1;", 1 + 1 + 3 + 1 + 1, 13, 0);
        lived("when home c;end;when home a;end;night 1;", 3, 1, 0);
    }

    private static void stopEnds() {
        lived("night 1;stop;night 1;", 2, 1, 0);
        lived("loop 9;night 1;stop;end;night 1;", 3, 1, 0);
        lived("when home a;stop;end;night 1;", 2, 1, 0);
        lived("loop 2;when home c;stop;end;end;", 3, 0, 0);
        lived("stop;", 1, 0, 0);
    }

    private static void atMost300() {
        String most = "loop 99;night 1;night 1;night 1;end;";
        lived(most, 298, 297, 0);
        lived(most + "night 1;night 1;", 300, 299, 0);
        lived(most + "night 1;night 1;night 1;", 300, 299, 1);
        lived(most + "night 1;night 1;stop;", 300, 299, 1);
        lived(most + "night 1;stop;night 1;", 300, 298, 0);
        lived(most + "night 1;night 1;when home a;end;", 300, 299, 1);
        lived(most + "night 1;loop 9;end;", 300, 298, 0);
        lived(most + "night 1;loop 2;night 1;end;", 300, 298, 1);
        lived(most + "night 1;when home a;night 1;end;", 300, 298, 0);
        lived("loop 1;" + most + "night 1;end;", 300, 298, 0);
        lived("loop 2;" + most + "night 1;end;", 300, 298, 1);
        lived("loop 1;loop 1;" + most + "end;end;", 300, 297, 0);
        lived("loop 99;loop 99;loop 99;end;end;end;", 300, 0, 1);
        lived("loop 3;loop 99;loop 99;end;end;end;", 300, 0, 1);
        lived("loop 2;loop 99;loop 1;end;end;end;", 1 + 2 + 198, 0, 0);
        lived("loop 99;loop 99;end;end;", 100, 0, 0);
    }

    private static void whatIsToldIsOfOneLife() {
        QuarrelKeys x = Check.with("cool 0;" + TWO, "quarrel 0;make 0;quarrel 0;loop 2;when home a;night 1;end;end;");
        x.quarrel(0);
        x.quarrel(0);
        x.makeUp(0);
        x.night(4);
        // a lives in b now, and home behind the first three
        Check.due("lives", Check.lives(x), "10");
        Check.fine(x, "live(0)", x.live(0), 3 + 1 + 4);
        told(x, 0, 2, 2, 1, 0);
        Check.decades(x, "loop 99;make 0;make 0;quarrel 0;end;night 1;night 1;stop;");
        Check.fine(x, "live(0)", x.live(0), 300);
        Check.fine(x, "left", x.lived(4), 1);
        Check.decades(x, "when home a;end;when home b;end;loop 3;end;stop;");
        Check.fine(x, "live(0)", x.live(0), 4);
        told(x, 0, 0, 0, 0, 0);
    }

    private static void liveIsRefused() {
        QuarrelKeys x = Check.with(TWO);
        Check.refused(x, "live(0) without decades", y -> y.live(0), 8);
        Check.refused(x, "live(-1) without decades", y -> y.live(-1), 5);
        Check.decades(x, "quarrel 0;");
        for (int seed : new int[] {-1, 10000, Integer.MIN_VALUE, Integer.MAX_VALUE}) {
            Check.refused(x, "live(" + seed + ")", y -> y.live(seed), 5);
        }
        Check.refused(x, "lived(0): there was none", y -> y.lived(0), 8);
        Check.refused(x, "lived(5)", y -> y.lived(5), 5);
        Check.refused(x, "lived(-1)", y -> y.lived(-1), 5);
    }

    private static void livedTells() {
        QuarrelKeys x = Check.with(TWO, "quarrel 0;night 3;");
        x.live(1);
        told(x, 0, 3, 1, 0, 0);
        x.live(-1);
        told(x, 0, 3, 1, 0, 0);
        x.quarrel(0);
        x.night(9);
        told(x, 0, 3, 1, 0, 0);
        x.mean(0, 5);
        told(x, 0, 3, 1, 0, 0);
        Check.quarter(x, "person a;");
        told(x, 0, 3, 1, 0, 0);
        Check.refused(x, "lived(5)", y -> y.lived(5), 5);
        Check.refused(x, "lived(MIN)", y -> y.lived(Integer.MIN_VALUE), 5);
    }

    private static void newcomersAndNewStairs() {
        QuarrelKeys x = Check.with("odds 16;cool 0;person a;person b;", "any;");
        Check.fine(x, "live(5)", x.live(5), 1);
        told(x, 1, 0, 0, 0, 0);
        x.come();
        x.build(0, 1);
        x.build(1, 2);
        Check.fine(x, "live(5) over new stairs", x.live(5), 1);
        told(x, 0, 0, 1, 0, 0);
        Check.due("lives", Check.lives(x), "021");
    }

    private static void meanOfHomes() {
        String three = "odds 16;cool 0;person a;person b;person c;person d;stair a b;stair a c;";
        QuarrelKeys x = Check.with(three, "quarrel 0;");
        String before = Check.sight(x);
        Check.fine(x, "mean(0, 20)", x.mean(0, 20));
        Check.due("top()", x.top(), 2);
        Check.due("bottom()", x.bottom(), 1);
        Check.due("all stays", Check.sight(x).substring(3), before.substring(3));
        // seed 0: stair 0 of 2 (1368); seed 5: stair 1 (3225); home are two by each
        Check.decades(x, "any;when home b;quarrel 1;end;");
        Check.fine(x, "mean(0, 1)", x.mean(0, 1));
        Check.due("top()", x.top(), 2);
        Check.fine(x, "mean(5, 1)", x.mean(5, 1));
        Check.due("top()", x.top(), 4);
        // seeds 2 to 5: s is 16891 (2111: 1), 19862 (2482: 0), 22833 (2854: 0), 25804 (3225: 1)
        Check.fine(x, "mean(2, 4)", x.mean(2, 4));
        Check.due("top() of 4 + 2 + 2 + 4", x.top(), 3);
        Check.due("bottom()", x.bottom(), 1);
        Check.fine(x, "mean(3, 3)", x.mean(3, 3));
        Check.due("top() of 2 + 2 + 4", x.top(), 8);
        Check.due("bottom()", x.bottom(), 3);
        Check.fine(x, "mean(4, 2)", x.mean(4, 2));
        Check.due("top() of 2 + 4", x.top(), 3);
        Check.due("bottom()", x.bottom(), 1);
        Check.fine(x, "mean(9999, 1)", x.mean(9999, 1));
        Check.fine(x, "mean(9980, 20)", x.mean(9980, 20));
        QuarrelKeys away = Check.with("person a;person b;swap a b;", "");
        Check.fine(away, "mean(0, 3) of nobody home", away.mean(0, 3));
        Check.due("top()", away.top(), 0);
        Check.due("bottom()", away.bottom(), 1);
    }

    private static void meanIsRefused() {
        QuarrelKeys x = Check.with(TWO);
        Check.denied(x, "mean(0, 1) without decades", y -> y.mean(0, 1), 8);
        Check.denied(x, "mean(0, 0) without decades", y -> y.mean(0, 0), 5);
        Check.decades(x, "quarrel 0;");
        int[][] wrong = {{-1, 1}, {10000, 1}, {9999, 2}, {9981, 20}, {0, 0}, {0, -1}, {0, 21}, {0, Integer.MAX_VALUE},
            {Integer.MAX_VALUE, 2}, {Integer.MIN_VALUE, 1}, {5, Integer.MIN_VALUE}, {Integer.MAX_VALUE, 20}};
        for (int[] w : wrong) {
            Check.denied(x, "mean(" + w[0] + ", " + w[1] + ")", y -> y.mean(w[0], w[1]), 5);
        }
    }
}
