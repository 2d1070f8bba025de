/** Promise 10, boundary by boundary: the QUARTER as a text, its numbers, its FAULTS 1 to 6 and their places. */
public final class EdgesOfQuarterTextTest {
    private static final String TWO = "person a;person b;";
    private static final String TEN = "stair a b;stair a c;stair a d;stair a e;stair a f;stair a g;stair b c;stair b d;"
        + "stair b e;stair b f;";
    private static final String[] WORDS = {"odds", "cool", "person", "temper", "stair", "grudge", "like", "swap",
        "quarrel", "make", "night", "calm", "any", "when", "home", "lives", "loop", "end", "stop"};

    public static void main(String[] args) {
        blanks();
        letters();
        digits();
        signs();
        asLongAsTheyGo();
        noPart();
        names();
        oddsAndCool();
        tempers();
        grudges();
        likings();
        swaps();
        numberedAsTheyStand();
        stairsOfTheSameTwo();
        fullAndOneMore();
        fault1();
        fault2AtEachToken();
        fault2AtTheEnd();
        fault3();
        fault4();
        fault5();
        theFirstAlongTheText();
        ofOneTokenTheLeastKind();
        Check.end("EdgesOfQuarterTextTest");
    }

    private static QuarrelKeys taken(String text, int people) {
        QuarrelKeys x = new QuarrelKeys();
        Check.fine(x, "10 quarter of \"" + text + "\"", Check.quarter(x, text), people);
        Check.due("10 fault(0) of \"" + text + "\"", x.fault(0), 0);
        Check.due("10 fault(1) of \"" + text + "\"", x.fault(1), -1);
        return x;
    }

    private static void faulty(String text, int kind, int place) {
        QuarrelKeys x = new QuarrelKeys();
        Check.due("10 quarter of \"" + text + "\"", Check.quarter(x, text), -1);
        Check.due("10 STATUS of \"" + text + "\"", x.status(), 10);
        Check.due("10 the FAULT of \"" + text + "\"", x.fault(0), kind);
        Check.due("10 the place in \"" + text + "\"", x.fault(1), place);
        Check.due("10 nobody by \"" + text + "\"", x.many(0) + x.many(1), 0);
    }

    /** What has stood ahead ends with a FAULT at its own end; this one is at the beginning of what comes behind. */
    private static void faultyBehind(String ahead, String behind, int kind) {
        faulty(ahead + behind, kind, ahead.length());
    }

    private static void blanks() {
        taken("person\na;", 1);
        taken("person a;", 1);
        taken("person  \n \n\n a  \n ;", 1);
        taken("\nperson a;", 1);
        taken("person a;\n", 1);
        for (int sign = 0; sign < 256; sign++) {
            boolean blank = sign == 10 || sign == 32;
            boolean token = "abcdefghijklmnopqrstuvwxyz0123456789;<>=".indexOf(sign) >= 0;
            String text = "person a;" + (char) sign;
            if (blank) {
                taken(text, 1);
            } else {
                faulty(text, token ? 2 : 1, 9);
            }
        }
    }

    private static void letters() {
        taken("person a;person z;", 2);
        taken("person abcdefgh;person ijklmnop;person qrstuvwx;person yz;", 4);
        faulty("person `;", 1, 7);
        faulty("person {;", 1, 7);
        faulty("person A;", 1, 7);
        faulty("person Z;", 1, 7);
        faulty("person aB;", 1, 8);
        faulty("person a`;", 1, 8);
        faulty("person a{;", 1, 8);
        faulty("odds 1/;", 1, 6);
        faulty("odds 1:;", 1, 6);
        faulty("person a_b;", 1, 8);
        faulty("person a1;", 2, 8);
        faulty("Person a;", 1, 0);
        faulty("person " + (char) 225 + ";", 1, 7);
    }

    private static void digits() {
        Check.due("10 one digit", taken("odds 9;", 0).many(2), 9);
        Check.due("10 four digits", taken("odds 0009;", 0).many(2), 9);
        Check.due("10 four digits, two of them", taken("odds 0016;", 0).many(2), 16);
        faulty("odds 00009;", 1, 5);
        faulty("odds 99999;", 1, 5);
        faulty("odds 000000000000000000000000000000009;", 1, 5);
        faulty("odds 4294967296;", 1, 5);
        faulty("odds 4294967301;", 1, 5);
        faulty("odds 18446744073709551616;", 1, 5);
        faulty("odds /;", 1, 5);
        faulty("odds :;", 1, 5);
        faulty("odds -1;", 1, 5);
        faulty("odds +1;", 1, 5);
        faulty("odds 1.5;", 1, 6);
        faulty("odds 1,5;", 1, 6);
        faulty("odds 1 6;", 2, 7);
    }

    private static void signs() {
        for (char sign : new char[] {'<', '>', '='}) {
            faulty("odds 5" + sign, 2, 6);
            faulty("odds " + sign, 2, 5);
            faulty("" + sign, 2, 0);
        }
        for (char sign : new char[] {':', '?', '/', '@', '!', ','}) {
            faulty("odds 5" + sign, 1, 6);
        }
        faulty(";", 2, 0);
        faulty("odds 5;;", 2, 7);
    }

    private static void asLongAsTheyGo() {
        taken("odds5;cool6;person a temper7;person b;stair a b grudge8;like a b9;swap a b;", 2);
        taken("odds 5;cool 6;", 0);
        faulty("oddscool 5;", 2, 0);
        faulty("persona;", 2, 0);
        faulty("person atemper 5;", 2, 15);
        faulty("person a tempers 5;", 2, 9);
        faulty(TWO + "stair ab;", 3, 24);
        faulty(TWO + "stair a bgrudge 1;", 3, 26);
        faulty(TWO + "like a b55;", 4, 26);
        faulty("per son a;", 2, 0);
        faulty("per\nson a;", 2, 0);
    }

    private static void noPart() {
        taken("", 0);
        taken(" ", 0);
        taken("\n", 0);
        taken(" ".repeat(900), 0);
        taken("\n".repeat(900), 0);
        for (String word : WORDS) {
            boolean begins = "odds cool person stair like swap ".contains(word + " ");
            faulty(word, 2, begins ? word.length() : 0);
        }
    }

    private static void names() {
        taken("person a;", 1);
        taken("person abcdefgh;", 1);
        faulty("person abcdefghi;", 2, 7);
        faulty("person " + "z".repeat(800) + ";", 2, 7);
        for (String word : WORDS) {
            faulty("person " + word + ";", 2, 7);
            faulty(TWO + "like " + word + " a 5;", 2, 23);
            faulty(TWO + "like a " + word + " 5;", 2, 25);
            faulty(TWO + "swap " + word + " a;", 2, 23);
            faulty(TWO + "swap a " + word + ";", 2, 25);
            faulty(TWO + "stair " + word + " a;", 2, 24);
            faulty(TWO + "stair a " + word + ";", 2, 26);
            taken("person x" + word + ";", 1);
            taken("person " + word.substring(1) + ";person " + word.substring(0, word.length() - 1) + ";", 2);
            if (word.length() < 8) {
                taken("person " + word + "x;", 1);
            }
        }
        // NAMES that differ in the last letter, the first letter, in length
        taken("person abcdefgh;person abcdefgi;person bbcdefgh;person abcdefg;person bcdefgh;", 5);
        taken("person a;person aa;person aaa;person aaaa;person aaaaa;person aaaaaa;person aaaaaaaa;", 7);
    }

    private static void oddsAndCool() {
        Check.due("10 ODDS 0", taken("odds 0;", 0).many(2), 0);
        Check.due("10 ODDS 16", taken("odds 16;", 0).many(2), 16);
        Check.due("10 ODDS without", taken("cool 1;", 0).many(2), 8);
        Check.due("10 COOL 0", taken("cool 0;", 0).many(3), 0);
        Check.due("10 COOL 30", taken("cool 30;", 0).many(3), 30);
        Check.due("10 COOL without", taken("odds 1;", 0).many(3), 5);
        QuarrelKeys x = taken("person a;cool 7;person b;odds 3;", 2);
        Check.due("10 they may stand anywhere", x.many(2) * 10 + x.many(3), 37);
        Check.fine(x, "10 another QUARTER", Check.quarter(x, "person a;"), 1);
        Check.due("10 what was told in another QUARTER is gone", x.many(2) * 10 + x.many(3), 85);
        Check.fine(x, "10 told in another QUARTER", Check.quarter(x, "odds 3;cool 7;"), 0);
        Check.fine(x, "10 told again in another QUARTER", Check.quarter(x, "odds 4;cool 6;"), 0);
        Check.due("10 is not told already", x.many(2) * 10 + x.many(3), 46);
        Check.quarter(x, "odds 5;cool 5;!");
        Check.fine(x, "10 told behind one with a FAULT", Check.quarter(x, "odds 4;cool 6;"), 0);
    }

    private static void tempers() {
        QuarrelKeys x = taken("person a temper 0;person b temper 9;person c;person d temper 3;", 4);
        int[] due = {0, 9, 3, 3};
        for (int p = 0; p < 4; p++) {
            Check.fine(x, "10 TEMPER of " + p, x.person(p, 0), due[p]);
        }
        faulty("person a temper;", 2, 15);
        faulty("person a temper 1 temper 1;", 2, 18);
        faulty("person temper 1;", 2, 7);
        faulty("person a 1;", 2, 9);
        faulty("person a grudge 1;", 2, 9);
    }

    private static void grudges() {
        QuarrelKeys x = taken("person a;person b;person c;stair a b grudge 0;stair b c grudge 9;stair c a;", 3);
        int[] due = {0, 9, 0};
        for (int s = 0; s < 3; s++) {
            Check.fine(x, "10 GRUDGE of " + s, x.stair(s, 2), due[s]);
        }
        // what a STAIR had that is gone must not come back
        Check.quarter(x, "person a;person b;person c;stair a b;stair b c;");
        Check.due("10 GRUDGE without", x.stair(1, 2), 0);
        faulty(TWO + "stair a b temper 1;", 2, 28);
        faulty(TWO + "stair a b grudge;", 2, 34);
        faulty(TWO + "stair a b grudge 1 grudge 1;", 2, 37);
        faulty(TWO + "stair a grudge 1;", 2, 26);
    }

    private static void likings() {
        QuarrelKeys x = taken(TWO + "like a b 0;like b a 9;like a a 9;like b b 1;like b b 4;like b b 2;", 2);
        Check.due("10 LIKE 0", x.likes(0, 1), 0);
        Check.due("10 LIKE 9", x.likes(1, 0), 9);
        Check.due("10 LIKE of his own", x.likes(0, 0), 9);
        Check.due("10 LIKE told again: the latest", x.likes(1, 1), 2);
        QuarrelKeys y = taken("person a;like a a 7;person b;", 2);
        Check.due("10 LIKE without, of one who is told behind", y.likes(0, 1), 5);
        Check.due("10 LIKE without, by one who is told behind", y.likes(1, 0), 5);
        Check.due("10 LIKE without, of his own", y.likes(1, 1), 5);
        Check.due("10 LIKE told ahead of another PERSON", y.likes(0, 0), 7);
        Check.quarter(y, TWO);
        Check.due("10 LIKE of another QUARTER is gone", y.likes(0, 0), 5);
        faulty(TWO + "like a b;", 2, 26);
        faulty(TWO + "like a 5;", 2, 25);
        faulty(TWO + "like 5;", 2, 23);
        faulty(TWO + "like a b 5 5;", 2, 29);
    }

    private static void swaps() {
        QuarrelKeys x = taken("person a;person b;swap a b;person c;swap b c;stair a b grudge 2;swap a c;swap a c;swap a c;", 3);
        // 10, then 102, 120, 021 by the third one
        Check.due("10 SWAP in order, as often as told", Check.lives(x), "021");
        Check.due("10 nobody has QUARRELLED, nothing else changes",
            x.many(4) + x.many(5) + x.many(6) + "," + x.many(8) + "," + x.many(9), "0,9,2");
        faulty(TWO + "swap a;", 2, 24);
        faulty(TWO + "swap;", 2, 22);
        faulty(TWO + "swap a b b;", 2, 27);
    }

    private static void numberedAsTheyStand() {
        QuarrelKeys x = taken("person z;person a temper 1;stair a z;person m temper 2;stair z m grudge 1;stair m a;", 3);
        int[] tempers = {3, 1, 2};
        int[][] stairs = {{1, 0, 0}, {0, 2, 1}, {2, 1, 0}};
        for (int i = 0; i < 3; i++) {
            Check.due("10 PERSON " + i + " as he stands", x.person(i, 0), tempers[i]);
            for (int what = 0; what < 3; what++) {
                Check.due("10 STAIR " + i + " as it stands, " + what, x.stair(i, what), stairs[i][what]);
            }
        }
        faulty("stair a b;person a;person b;", 3, 6);
        faulty("person a;like a b 5;person b;", 3, 16);
        faulty("person a;swap a b;person b;", 3, 16);
    }

    private static void stairsOfTheSameTwo() {
        taken("person a;person b;person c;stair a b;stair a c;stair b c;", 3);
        taken("person a;person b;person c;person d;stair a b;stair c d;stair d b;stair c a;", 4);
        faulty(TWO + "stair a b;stair a b;", 5, 36);
        faulty(TWO + "stair a b;stair b a;", 5, 36);
        faulty(Edge.SEVEN + "stair f g;stair a b;stair g f;", 5, 63 + 20 + 8);
    }

    private static void fullAndOneMore() {
        QuarrelKeys x = taken(Edge.SEVEN, 7);
        Check.due("10 seven, the last one", x.person(6, 1), 6);
        QuarrelKeys y = taken(Edge.SEVEN + TEN, 7);
        Check.due("10 ten STAIRS", y.many(1), 10);
        Check.due("10 ten STAIRS, the last one", y.stair(9, 0) * 10 + y.stair(9, 1), 15);
        faultyBehind(Edge.SEVEN, "person h;", 6);
        faultyBehind(Edge.SEVEN, "person h;!", 6);
        faultyBehind(Edge.SEVEN + TEN, "person h;", 6);
        faultyBehind(Edge.SEVEN + TEN, "stair c d;", 6);
        faultyBehind(Edge.SEVEN + TEN + " \n", "stair c d;", 6);
        taken(Edge.SEVEN + TEN + "odds 1;cool 1;like g g 1;swap g a;", 7);
        // parts without a bound of their own: as many as 900 bytes hold
        taken(TWO + "swap a b;".repeat(98), 2);
        Check.due("10 98 swaps", Check.lives(taken(TWO + "swap a b;".repeat(98), 2)), "01");
        Check.due("10 97 swaps", Check.lives(taken(TWO + "swap a b;".repeat(97), 2)), "10");
        Check.due("10 80 likings", taken(TWO + "like a b 6;".repeat(79) + "like a b 7;", 2).likes(0, 1), 7);
    }

    private static void fault1() {
        String[] tokens = ("odds 5 ; cool 6 ; person a ; person b temper 4 ; stair a b ; person c ; stair b c grudge 3 ; "
            + "like a b 7 ; swap a b ;").split(" ");
        StringBuilder ahead = new StringBuilder();
        for (String token : tokens) {
            faultyBehind(ahead.toString(), "!", 1);
            faultyBehind(ahead.toString(), "00000", 1);
            faultyBehind(ahead.toString(), (char) 0 + token, 1);
            faultyBehind(ahead.toString(), (char) 255 + token, 1);
            ahead.append(token).append(' ');
        }
        faultyBehind(ahead.toString(), "!", 1);
        taken(ahead.toString(), 3);
    }

    private static void fault2AtEachToken() {
        // what stands in place of a TOKEN: a NUMBER, a WORD that can begin nothing there, a SIGN
        String[] tokens = ("odds 5 ; cool 6 ; person a ; person b temper 4 ; stair a b ; person c ; stair b c grudge 3 ; "
            + "like a b 7 ; swap a b ;").split(" ");
        StringBuilder ahead = new StringBuilder();
        for (String token : tokens) {
            boolean number = Character.isDigit(token.charAt(0));
            boolean stop = token.equals(";") || token.equals("temper") || token.equals("grudge");
            faultyBehind(ahead.toString(), number ? "a" : "5", 2);
            faultyBehind(ahead.toString(), stop ? "odds" : ";", 2);
            faultyBehind(ahead.toString(), "stop", 2);
            faultyBehind(ahead.toString(), "<", 2);
            faultyBehind(ahead.toString(), "abcdefghi", 2);
            ahead.append(token).append(' ');
        }
    }

    private static void fault2AtTheEnd() {
        String text = "odds 5;person a temper 4;person b;stair a b grudge 3;like a b 7;swap a b;";
        for (int n = 0; n <= text.length(); n++) {
            String cut = text.substring(0, n);
            boolean whole = cut.isEmpty() || cut.endsWith(";");
            boolean inWord = n < text.length() && n > 0 && Character.isLetter(cut.charAt(n - 1))
                && Character.isLetter(text.charAt(n));
            if (whole) {
                taken(cut, cut.contains("person b;") ? 2 : cut.contains("person a") ? 1 : 0);
            } else if (!inWord) {
                faulty(cut, 2, n);
                faulty(cut + " ", 2, n + 1);
                faulty(cut + "\n\n", 2, n + 2);
            }
        }
        faulty("person" + " ".repeat(894), 2, 900);
        faulty(" ".repeat(894) + "person", 2, 900);
    }

    private static void fault3() {
        faulty("person a;person a;", 3, 16);
        faulty("person a;person b;person a temper 1;", 3, 25);
        faulty("person abcdefgh;person abcdefgh;", 3, 23);
        faulty(TWO + "like c a 5;", 3, 23);
        faulty(TWO + "like a c 5;", 3, 25);
        faulty(TWO + "swap c a;", 3, 23);
        faulty(TWO + "swap a c;", 3, 25);
        faulty(TWO + "stair c a;", 3, 24);
        faulty(TWO + "stair a c;", 3, 26);
        faulty("like a a 5;", 3, 5);
        faulty("person abcdefgh;like abcdefg abcdefgh 5;", 3, 21);
        faulty("person a;like b b 5;", 3, 14);
        // one who was told in a QUARTER ahead is nobody now
        QuarrelKeys x = taken(TWO, 2);
        Check.due("10 a PERSON of another QUARTER", Check.quarter(x, "person c;like a c 5;"), -1);
        Check.due("10 a PERSON of another QUARTER, FAULT", x.fault(0) * 100 + x.fault(1), 314);
        Check.fine(x, "10 a NAME of another QUARTER is free", Check.quarter(x, "person b;person a;"), 2);
    }

    private static void fault4() {
        String[][] numbers = {{"odds ", "17"}, {"cool ", "31"}, {"person a temper ", "10"},
            {TWO + "stair a b grudge ", "10"}, {TWO + "like a b ", "10"}};
        for (String[] n : numbers) {
            faultyBehind(n[0], n[1] + ";", 4);
            faultyBehind(n[0], n[1], 4);
            faultyBehind(n[0], "00" + n[1] + ";", 4);
            faultyBehind(n[0], "9999;", 4);
            int last = Integer.parseInt(n[1]) - 1;
            taken(n[0] + last + ";", n[0].startsWith(TWO) ? 2 : n[0].startsWith("person") ? 1 : 0);
            taken(n[0] + "0000;", n[0].startsWith(TWO) ? 2 : n[0].startsWith("person") ? 1 : 0);
        }
    }

    private static void fault5() {
        faulty("odds 1;odds 1;", 5, 7);
        faulty("cool 1;cool 1;", 5, 7);
        faulty("odds 1;cool 1;odds 1;", 5, 14);
        faulty("cool 8;odds 8;cool 5;", 5, 14);
        faulty("odds 1;odds", 5, 7);
        faulty("cool 1;cool !", 5, 7);
        faulty(TWO + "stair a a;", 5, 26);
        faulty(TWO + "stair b b grudge 10;", 5, 26);
        faulty(TWO + "swap a a;", 5, 25);
        faulty(TWO + "swap b b", 5, 25);
        faulty("person a;swap a a;", 5, 16);
        faulty(TWO + "stair a b;stair b a grudge 10;", 5, 36);
        taken(TWO + "like a a 5;like b b 5;", 2);
    }

    private static void theFirstAlongTheText() {
        faulty("odds 17;!", 4, 5);
        faulty("odds 17 !", 4, 5);
        faulty("!odds 17;", 1, 0);
        faulty("odds 5 odds 12345", 2, 7);
        faulty("person a;person a;person a;!", 3, 16);
        faulty(TWO + "stair a a;stair c c;", 5, 26);
        faulty(TWO + "stair c c;stair a a;", 3, 24);
        faulty(TWO + "stair a a grudge 10;", 5, 26);
        faulty(TWO + "like c c 10;", 3, 23);
        faulty(TWO + "like a c 10;", 3, 25);
        faulty(TWO + "like a b 10!", 4, 27);
        faulty("odds 1;cool 1;odds 17;", 5, 14);
        faulty("person a temper 10;person a;", 4, 16);
        // at its own WORD ahead of what stands behind that
        faultyBehind(Edge.SEVEN, "person a;", 6);
        faultyBehind(Edge.SEVEN, "person odds;", 6);
        faultyBehind(Edge.SEVEN, "person", 6);
        faultyBehind(Edge.SEVEN, "person 12345", 6);
        faultyBehind(Edge.SEVEN + TEN, "stair a b;", 6);
        faultyBehind(Edge.SEVEN + TEN, "stair c c;", 6);
        faultyBehind(Edge.SEVEN + TEN, "stair z z;", 6);
        faultyBehind(Edge.SEVEN + TEN, "stair", 6);
        faulty(Edge.SEVEN + TEN + "like a z 5;person h;", 3, 63 + 100 + 7);
        faulty(Edge.SEVEN + "odds 1;odds 2;person h;", 5, 63 + 7);
    }

    private static void ofOneTokenTheLeastKind() {
        // 1 ahead of 2 and 4: five digits where a NUMBER, a NAME or a SIGN must stand
        faulty("odds 10000;", 1, 5);
        faulty("person 10000;", 1, 7);
        faulty("odds 5 10000;", 1, 7);
        // 2 ahead of 3: no NAME at all
        faulty(TWO + "swap abcdefghi a;", 2, 23);
        faulty(TWO + "swap stop a;", 2, 23);
        faulty("person abcdefgh;person abcdefghi;", 2, 23);
        // 2 ahead of 5 and 6: the WORD can't stand there
        faulty("odds 1;cool odds 1;", 2, 12);
        faulty("odds 1;person odds;", 2, 14);
        faulty(Edge.SEVEN + "like person a 5;", 2, 63 + 5);
        faulty(Edge.SEVEN + TEN + "swap stair a;", 2, 63 + 100 + 5);
        // 3 ahead of 5: nobody twice
        faulty(TWO + "swap c c;", 3, 23);
    }
}
