/** Promises 9, 10 and 12: the tape, the QUARTER as a text, its FAULTS. */
public final class TextsTest {
    private static final String TWO = "person a;person b;";

    public static void main(String[] args) {
        feedFillsTheTape();
        feedPutsTheHighestByteFirst();
        quarterTakesTheFirstBytes();
        quarterIsRefused();
        theWholeGrammar();
        blanksAndTokens();
        tokensThatAreNone();
        tokensThatCantStand();
        namesThatCantBe();
        numbersThatCantBe();
        toldAgain();
        oneTooMany();
        theFirstFaultAlongTheText();
        anyTokenSpoiled();
        whatStandsBehindDoesNotCount();
        aFaultLeavesTheOldQuarter();
        faultIsOfTheLatest();
        aNewQuarterBeginsAnew();
        Check.end("TextsTest");
    }

    private static void feedFillsTheTape() {
        QuarrelKeys x = new QuarrelKeys();
        x.read(9, 9);
        for (int i = 1; i <= 45; i++) {
            Check.due("feed " + i, x.feed(0x20202020, 0x20202020, 0x20202020, 0x20202020, 0x20202020), 20 * i);
        }
        Check.due("feed 46", x.feed(1, 2, 3, 4, 5), -1);
        Check.due("feed 47", x.feed(1, 2, 3, 4, 5), -1);
        Check.due("status() behind feed", x.status(), 1);
        Check.refused(x, "quarter(901)", y -> y.quarter(901), 5);
        Check.fine(x, "quarter(900) of blanks", x.quarter(900), 0);
        Check.due("feed behind it", x.feed(0, 0, 0, 0, 0), 20);
    }

    private static void feedPutsTheHighestByteFirst() {
        QuarrelKeys x = new QuarrelKeys();
        // "pers" "on a" "b;  " and blanks
        x.feed(0x70657273, 0x6f6e2061, 0x623b2020, 0x20202020, 0x2020200a);
        Check.fine(x, "quarter(20)", x.quarter(20), 1);
        // the highest bit of a byte must not spill into others: byte 255 stands alone
        x.feed(0x706572ff, 0, 0, 0, 0);
        Check.due("quarter(4)", x.quarter(4), -1);
        Check.due("fault(0)", x.fault(0), 2);
        x.feed(0xff202020, 0, 0, 0, 0);
        Check.due("quarter(1)", x.quarter(1), -1);
        Check.due("fault(0)", x.fault(0), 1);
        Check.due("fault(1)", x.fault(1), 0);
    }

    private static void quarterTakesTheFirstBytes() {
        QuarrelKeys x = new QuarrelKeys();
        Check.feed(x, Check.bytes("person a;!!!!"));
        Check.fine(x, "quarter(9)", x.quarter(9), 1);
        Check.refused(x, "quarter(1) of the tape that is empty then", y -> y.quarter(1), 5);
        Check.fine(x, "quarter(0)", x.quarter(0), 0);
        Check.due("many(0)", x.many(0), 0);
        Check.feed(x, Check.bytes("person a;"));
        Check.fine(x, "quarter(0) of a tape with bytes", x.quarter(0), 0);
        Check.refused(x, "quarter(1) behind it", y -> y.quarter(1), 5);
    }

    private static void quarterIsRefused() {
        QuarrelKeys x = new QuarrelKeys();
        Check.feed(x, Check.bytes("person a;"));
        for (int n : new int[] {-1, 21, Integer.MIN_VALUE, Integer.MAX_VALUE}) {
            Check.refused(x, "quarter(" + n + ")", y -> y.quarter(n), 5);
        }
        Check.due("fault(0) behind 5 alone", x.fault(0), -1);
        Check.fine(x, "quarter(20): the tape is still there", x.quarter(20), 1);
    }

    private static void theWholeGrammar() {
        QuarrelKeys x = new QuarrelKeys();
        String text = "person a temper 0;odds 16;person b temper 9;stair b a grudge 9;person c;cool 30;stair c b;"
            + "like a a 0;like a b 9;like b c 4;like b c 6;swap a b;swap b c;swap a c;swap a c;person d;";
        Check.fine(x, "quarter", Check.quarter(x, text), 4);
        Check.due("fault(0)", x.fault(0), 0);
        Check.due("fault(1)", x.fault(1), -1);
        int[] many = {4, 2, 16, 30, 0, 0, 0, 8, 15, 9};
        for (int what = 0; what < many.length; what++) {
            Check.due("many(" + what + ")", x.many(what), many[what]);
        }
        // a and b: 1 0 2, b and c: 1 2 0, a and c twice: as it was
        Check.due("lives", Check.lives(x), "1203");
        Check.due("temper of a", x.person(0, 0), 0);
        Check.due("temper of b", x.person(1, 0), 9);
        Check.due("temper of c", x.person(2, 0), 3);
        Check.due("stair 0", x.stair(0, 0) * 100 + x.stair(0, 1) * 10 + x.stair(0, 2), 109);
        Check.due("stair 1", x.stair(1, 0) * 100 + x.stair(1, 1) * 10 + x.stair(1, 2), 210);
        int[] likes = {0, 9, 5, 5, 5, 5, 6, 5, 5, 5, 5, 5, 5, 5, 5, 5};
        for (int i = 0; i < 16; i++) {
            Check.due("likes(" + i / 4 + ", " + i % 4 + ")", x.likes(i / 4, i % 4), likes[i]);
        }
    }

    private static void taken(String text, int people) {
        QuarrelKeys x = new QuarrelKeys();
        Check.fine(x, "quarter of \"" + text + "\"", Check.quarter(x, text), people);
        Check.due("fault(0) of \"" + text + "\"", x.fault(0), 0);
    }

    private static void faulty(String text, int kind, int place) {
        QuarrelKeys x = new QuarrelKeys();
        Check.due("quarter of \"" + text + "\"", Check.quarter(x, text), -1);
        Check.due("status() of \"" + text + "\"", x.status(), 10);
        Check.due("fault(0) of \"" + text + "\"", x.fault(0), kind);
        Check.due("fault(1) of \"" + text + "\"", x.fault(1), place);
    }

    private static void blanksAndTokens() {
        taken("", 0);
        taken(" \n ", 0);
        taken("\nperson\na\n;\n", 1);
        taken("odds5;cool0;person a;like a a5;", 1);
        taken("odds 0016;", 0);
        taken("odds 0;cool 0;", 0);
        taken("person abcdefgh;person abcdefg;", 2);
        taken("person a temper9;", 1);
        taken("person odd;person oddss;person ends;person en;person quarrels;", 5);
        faulty("oddsx 5;", 2, 0);
        faulty("persona;", 2, 0);
        faulty("odd s 5;", 2, 0);
        faulty("od ds 5;", 2, 0);
    }

    private static void tokensThatAreNone() {
        faulty("!", 1, 0);
        faulty("  ~", 1, 2);
        for (char c : new char[] {0, 9, 11, 13, 31, 33, '/', ':', '?', '@', 'A', 'Z', '[', '`', '{', 127, 128, 160, 255}) {
            faulty(c + "person a;", 1, 0);
            faulty("person a;" + c, 1, 9);
            faulty("person " + c, 1, 7);
        }
        faulty("odds 12345;", 1, 5);
        faulty("odds 00016;", 1, 5);
        faulty("odds 123456789012345678901234567890;", 1, 5);
        faulty("person 12345;", 1, 7);
        faulty("12345", 1, 0);
        faulty("person a;#", 1, 9);
        faulty("person a#", 1, 8);
    }

    private static void tokensThatCantStand() {
        for (String word : new String[] {"temper", "grudge", "quarrel", "make", "night", "calm", "any", "when", "home",
            "lives", "loop", "end", "stop", "a", "oddsodds", "ninechars", ";", "<", ">", "=", "1"}) {
            faulty(word, 2, 0);
        }
        faulty("odds", 2, 4);
        faulty("odds  ", 2, 6);
        faulty("odds ;", 2, 5);
        faulty("odds x;", 2, 5);
        faulty("odds <", 2, 5);
        faulty("odds 5", 2, 6);
        faulty("odds 5 \n", 2, 8);
        faulty("odds 5 5;", 2, 7);
        faulty("odds 5 <", 2, 7);
        faulty("cool", 2, 4);
        faulty("cool 5", 2, 6);
        faulty("person", 2, 6);
        faulty("person ;", 2, 7);
        faulty("person 1;", 2, 7);
        faulty("person a", 2, 8);
        faulty("person a b;", 2, 9);
        faulty("person a grudge 1;", 2, 9);
        faulty("person a temper", 2, 15);
        faulty("person a temper;", 2, 15);
        faulty("person a temper 1", 2, 17);
        faulty("person a temper 1 temper 1;", 2, 18);
        faulty("person a;;", 2, 9);
        faulty(TWO + "stair", 2, 23);
        faulty(TWO + "stair a", 2, 25);
        faulty(TWO + "stair a;", 2, 25);
        faulty(TWO + "stair a b", 2, 27);
        faulty(TWO + "stair a b 1;", 2, 28);
        faulty(TWO + "stair a b temper 1;", 2, 28);
        faulty(TWO + "stair a b grudge", 2, 34);
        faulty(TWO + "stair a b grudge a;", 2, 35);
        faulty(TWO + "like a 5;", 2, 25);
        faulty(TWO + "like a b;", 2, 26);
        faulty(TWO + "like a b = 5;", 2, 27);
        faulty(TWO + "like a b 5", 2, 28);
        faulty(TWO + "swap a;", 2, 24);
        faulty(TWO + "swap a b", 2, 26);
        faulty(TWO + "swap a b 1;", 2, 27);
        faulty("quarrel 0;", 2, 0);
    }

    private static void namesThatCantBe() {
        for (String word : new String[] {"odds", "cool", "person", "temper", "stair", "grudge", "like", "swap",
            "quarrel", "make", "night", "calm", "any", "when", "home", "lives", "loop", "end", "stop", "abcdefghi",
            "abcdefghijklmnopqrstuvwxyz"}) {
            faulty("person " + word + ";", 2, 7);
            faulty(TWO + "stair a " + word + ";", 2, 26);
        }
        // the same last eight letters as a NAME that is told
        faulty("person bcdefghi;swap abcdefghi", 2, 21);
        faulty("person a;person a;", 3, 16);
        faulty(TWO + "person b temper 3;", 3, 25);
        faulty(TWO + "stair a c;", 3, 26);
        faulty(TWO + "stair c a;", 3, 24);
        faulty(TWO + "like c a 5;", 3, 23);
        faulty(TWO + "like a c 5;", 3, 25);
        faulty(TWO + "swap c a;", 3, 23);
        faulty(TWO + "swap a c;", 3, 25);
        faulty("stair a b;person a;person b;", 3, 6);
        faulty("person ab;swap a ab;", 3, 15);
        faulty("person a;swap aa a;", 3, 14);
    }

    private static void numbersThatCantBe() {
        faulty("odds 17;", 4, 5);
        faulty("odds 9999;", 4, 5);
        faulty("cool 31;", 4, 5);
        faulty("person a temper 10;", 4, 16);
        faulty(TWO + "stair a b grudge 10;", 4, 35);
        faulty(TWO + "like a b 10;", 4, 27);
        faulty("odds 17", 4, 5);
        taken(TWO + "stair a b grudge 0009;like a b 0000;", 2);
    }

    private static void toldAgain() {
        faulty("odds 1;odds 1;", 5, 7);
        faulty("cool 1;person a;cool 1;", 5, 16);
        faulty("odds 1;odds", 5, 7);
        faulty(TWO + "stair a a;", 5, 26);
        faulty(TWO + "swap b b;", 5, 25);
        faulty(TWO + "stair a b;stair a b;", 5, 36);
        faulty(TWO + "stair a b;stair b a grudge 10", 5, 36);
        taken(TWO + "swap a b;swap a b;swap b a;like a b 1;like a b 1;", 2);
    }

    private static void oneTooMany() {
        String seven = "person a;person b;person c;person d;person e;person f;person g;";
        taken(seven, 7);
        faulty(seven + "person h;", 6, 63);
        faulty(seven + "person", 6, 63);
        faulty(seven + "person a;", 6, 63);
        String ten = "stair a b;stair a c;stair a d;stair a e;stair b c;stair b d;stair b e;stair c d;stair c e;stair d e;";
        taken(seven + ten, 7);
        faulty(seven + ten + "stair a f;", 6, 163);
        faulty(seven + ten + "stair a a;", 6, 163);
        faulty(seven + ten + "stair !", 6, 163);
    }

    private static void theFirstFaultAlongTheText() {
        faulty("odds 17 !", 4, 5);
        faulty("odds 5 person !", 2, 7);
        faulty("! odds 17", 1, 0);
        faulty(TWO + "stair x !", 3, 24);
        faulty("person a;person a!", 3, 16);
        faulty("odds 12345", 1, 5);
    }

    /** Each TOKEN of a text in turn is one that is none, one that can't stand there, or the end. */
    private static void anyTokenSpoiled() {
        String[] tokens = ("odds 5 ; cool 6 ; person a ; person b temper 4 ; stair a b ; person c ; stair b c grudge 3 ; "
            + "like a b 7 ; swap a b ;").split(" ");
        String ahead = "";
        for (String token : tokens) {
            faulty(ahead + "! 1 ;", 1, ahead.length());
            faulty(ahead + "12345", 1, ahead.length());
            faulty(ahead + "= a ;", 2, ahead.length());
            if (!ahead.isEmpty() && !ahead.endsWith("; ")) {
                faulty(ahead, 2, ahead.length());
                faulty(ahead + "home", 2, ahead.length());
            }
            ahead = ahead + token + " ";
        }
        taken(ahead, 3);
    }

    private static void cutOff(String text, int n, int kind, int place) {
        QuarrelKeys x = new QuarrelKeys();
        Check.feed(x, Check.bytes(text));
        x.quarter(n);
        Check.due("fault(0) of " + n + " bytes of " + text, x.fault(0), kind);
        Check.due("fault(1) of " + n + " bytes of " + text, x.fault(1), place);
    }

    private static void whatStandsBehindDoesNotCount() {
        cutOff("odds 99;", 6, 2, 6);
        cutOff("odds 1;;", 7, 0, -1);
        cutOff("oddsx", 4, 2, 4);
        cutOff("odds 12345;", 9, 4, 5);
        cutOff("person a;", 8, 2, 8);
        cutOff("person abcdefghi", 15, 2, 15);
        cutOff("person a;!", 9, 0, -1);
        cutOff("person a;\n\n!", 11, 0, -1);
        // the tape's last byte
        cutOff(" ".repeat(893) + "odds 16", 900, 2, 900);
        cutOff(" ".repeat(895) + "oddsx", 900, 2, 895);
        cutOff(" ".repeat(892) + "odds 16;", 900, 0, -1);
        QuarrelKeys x = new QuarrelKeys();
        for (int i = 0; i < 3; i++) {
            Check.fine(x, "the same quarter again", Check.quarter(x, "odds 1;cool 1;person a;"), 1);
        }
    }

    private static void aFaultLeavesTheOldQuarter() {
        QuarrelKeys x = Check.with("odds 3;cool 4;" + TWO + "stair a b;like a b 7;swap a b;", "night 1;");
        x.quarrel(0);
        x.night(2);
        String before = Check.sight(x).replaceFirst("fault \\S+ \\S+", "");
        Check.due("a faulty quarter", Check.quarter(x, "odds 9;person z;person z;"), -1);
        Check.due("status()", x.status(), 10);
        Check.due("fault(0)", x.fault(0), 3);
        Check.due("fault(1)", x.fault(1), 23);
        Check.due("all else", Check.sight(x).replaceFirst("fault \\S+ \\S+", ""), before);
        Check.refused(x, "the tape is empty", y -> y.quarter(1), 5);
        Check.fine(x, "live: the decades are still there", x.live(0), 1);
    }

    private static void faultIsOfTheLatest() {
        QuarrelKeys x = new QuarrelKeys();
        Check.quarter(x, "person a");
        Check.due("fault(0)", x.fault(0), 2);
        Check.due("fault(1)", x.fault(1), 8);
        Check.due("fault(2)", x.fault(2), -1);
        Check.due("fault(-1)", x.fault(-1), -1);
        x.quarter(5);
        x.decades(301);
        Check.due("fault(0) behind 5", x.fault(0), 2);
        Check.due("fault(1) behind 5", x.fault(1), 8);
        Check.decades(x, "loop 0;");
        Check.due("fault(0) of decades", x.fault(0), 4);
        Check.due("fault(1) of decades", x.fault(1), 5);
        Check.quarter(x, "person a;");
        Check.due("fault(0) without one", x.fault(0), 0);
        Check.due("fault(1) without one", x.fault(1), -1);
        Check.quarter(x, "!");
        Check.decades(x, "stop;");
        Check.due("fault(0) behind decades that are taken", x.fault(0), 0);
        Check.due("fault(1) behind decades that are taken", x.fault(1), -1);
    }

    private static void aNewQuarterBeginsAnew() {
        QuarrelKeys x = Check.with("odds 3;cool 0;" + TWO + "stair a b grudge 7;like b a 9;like a b 9;swap a b;", "night 1;quarrel 0;");
        x.quarrel(0);
        Check.fine(x, "makeUp(0)", x.makeUp(0), 7);
        x.night(5);
        x.live(0);
        x.mean(0, 1);
        Check.fine(x, "quarter", Check.quarter(x, "person b;person a;person c;"), 3);
        int[] many = {3, 0, 8, 5, 0, 0, 0, 7, 9, 0};
        for (int what = 0; what < many.length; what++) {
            Check.due("many(" + what + ")", x.many(what), many[what]);
        }
        for (int i = 0; i < 9; i++) {
            Check.due("likes(" + i / 3 + ", " + i % 3 + ")", x.likes(i / 3, i % 3), 5);
        }
        Check.refused(x, "live: there are no decades", y -> y.live(0), 8);
        Check.fine(x, "build", x.build(0, 1), 0);
        Check.due("a new stair's grudge", x.stair(0, 2), 0);
    }
}
