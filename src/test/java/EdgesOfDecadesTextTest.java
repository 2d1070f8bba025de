/** Promise 11, boundary by boundary: DECADES as a text, its numbers, its FAULTS 1, 2, 3, 4, 6 and 7 and their places. */
public final class EdgesOfDecadesTextTest {
    private static final String TWO = "person a;person b;stair a b;";
    private static final String[] TOKENS = ("quarrel 0 ; make 0 ; night 1 ; calm a 1 ; any ; when home a ; when lives a b ; "
        + "when grudge 0 < 1 ; end ; end ; end ; when temper a = 1 ; end ; loop 2 ; any ; end ; stop ;").split(" ");

    public static void main(String[] args) {
        noStep();
        eachStep();
        numbersAtTheirEnds();
        stairNumbers();
        compares();
        blanksAndTokens();
        fault1();
        fault2AtEachToken();
        fault2AtTheEnd();
        fault2OfEnds();
        fault3();
        fault4();
        thirtyAndOneMore();
        threeDeepAndOneMore();
        theFirstAlongTheText();
        ofOneTokenTheLeastKind();
        Check.end("EdgesOfDecadesTextTest");
    }

    private static void taken(String text, int steps) {
        QuarrelKeys x = Check.with(TWO);
        Check.fine(x, "11 decades of \"" + text + "\"", Check.decades(x, text), steps);
        Check.due("11 fault(0) of \"" + text + "\"", x.fault(0), 0);
        Check.due("11 fault(1) of \"" + text + "\"", x.fault(1), -1);
        Check.due("11 STATUS of live by \"" + text + "\"", Math.min(0, x.live(0)) + x.status(), 0);
    }

    private static void faulty(String text, int kind, int place) {
        faulty(TWO, text, kind, place);
    }

    private static void faulty(String quarter, String text, int kind, int place) {
        QuarrelKeys x = Check.with(quarter);
        Check.due("11 decades of \"" + text + "\"", Check.decades(x, text), -1);
        Check.due("11 STATUS of \"" + text + "\"", x.status(), 10);
        Check.due("11 the FAULT of \"" + text + "\"", x.fault(0), kind);
        Check.due("11 the place in \"" + text + "\"", x.fault(1), place);
        Check.refused(x, "11 there are none by \"" + text + "\"", y -> y.live(0), 8);
    }

    private static void faultyBehind(String ahead, String behind, int kind) {
        faulty(ahead + behind, kind, ahead.length());
    }

    private static void noStep() {
        taken("", 0);
        taken(" ", 0);
        taken("\n", 0);
        taken(" ".repeat(300), 0);
        QuarrelKeys x = new QuarrelKeys();
        Check.fine(x, "11 none of nobody", x.decades(0), 0);
        Check.fine(x, "11 none of nobody can be lived", x.live(0), 0);
    }

    private static void eachStep() {
        taken("quarrel 0;", 1);
        taken("make 0;", 1);
        taken("night 1;", 1);
        taken("calm a 0;", 1);
        taken("any;", 1);
        taken("stop;", 1);
        taken("loop 1;end;", 1);
        taken("when home a;end;", 1);
        taken("when lives a b;end;", 1);
        taken("when lives a a;end;", 1);
        taken("when grudge 0=0;end;", 1);
        taken("when temper b=0;end;", 1);
        taken("when home a;when home b;any;end;any;end;any;", 5);
        taken("stop;stop;any;", 3);
        for (String word : new String[] {"odds 1;", "cool 1;", "person c;", "temper a=1;", "stair a b;", "grudge 0=1;",
            "like a b 1;", "swap a b;", "home a;", "lives a b;", "end;", "a;", "quarrels 0;", "an;", "anyx;", "1;", ";", "<"}) {
            faulty(word, 2, 0);
            faultyBehind("any;", word, 2);
            if (!word.equals("end;")) {
                faultyBehind("loop 1;", word, 2);
            }
        }
    }

    private static void numbersAtTheirEnds() {
        String[][] numbers = {{"night ", "1", "40", ";"}, {"calm a ", "0", "9", ";"}, {"loop ", "1", "99", ";end;"},
            {"when grudge 0 = ", "0", "9", ";end;"}, {"when temper a = ", "0", "9", ";end;"}, {"quarrel ", "0", "0", ";"},
            {"make ", "0", "0", ";"}, {"when grudge ", "0", "0", "=1;end;"}};
        for (String[] n : numbers) {
            int least = Integer.parseInt(n[1]);
            int most = Integer.parseInt(n[2]);
            taken(n[0] + least + n[3], 1);
            taken(n[0] + most + n[3], 1);
            taken(n[0] + "000" + least + n[3], 1);
            faultyBehind(n[0], (most + 1) + n[3], 4);
            faultyBehind(n[0], "9999" + n[3], 4);
            faultyBehind(n[0], "0000" + least + n[3], 1);
            if (least > 0) {
                faultyBehind(n[0], (least - 1) + n[3], 4);
                faultyBehind(n[0], "0000" + n[3], 4);
            }
        }
    }

    private static void stairNumbers() {
        QuarrelKeys x = Check.with(Edge.FULL_TEXT);
        Check.fine(x, "11 STAIR 9 of ten", Check.decades(x, "quarrel 9;make 9;when grudge 9=0;end;"), 3);
        for (String step : new String[] {"quarrel ", "make ", "when grudge "}) {
            faulty(Edge.FULL_TEXT, step + "10;", 4, step.length());
            faulty("", step + "0;", 4, step.length());
            faulty("person a;person b;", step + "0;", 4, step.length());
        }
        // a STAIR that is built since counts, one that is gone does not
        QuarrelKeys y = Check.with("person a;person b;");
        y.build(0, 1);
        Check.fine(y, "11 a STAIR that is built", Check.decades(y, "quarrel 0;"), 1);
        Check.quarter(y, "person a;person b;");
        Check.due("11 a STAIR that is gone", Check.decades(y, "quarrel 0;"), -1);
        Check.due("11 a STAIR that is gone, FAULT", y.fault(0) * 100 + y.fault(1), 408);
    }

    private static void compares() {
        taken("when grudge 0<1;end;when grudge 0>1;end;when grudge 0=1;end;", 3);
        taken("when temper a < 1 ; end ; when temper a > 1 ; end ; when temper a = 1 ; end ;", 3);
        faultyBehind("when grudge 0 ", ";1;", 2);
        faultyBehind("when grudge 0 ", "1;", 2);
        faultyBehind("when grudge 0 ", "a 1;", 2);
        faultyBehind("when grudge 0 <", "=1;", 2);
        faultyBehind("when grudge 0 ", "!1;", 1);
        faultyBehind("when temper a ", ";1;", 2);
        faultyBehind("when temper a =", "=1;", 2);
        faultyBehind("when temper a ", "1;", 2);
    }

    private static void blanksAndTokens() {
        taken("quarrel\n0\n;\n", 1);
        taken("quarrel0;make0;night1;calm a1;loop1;any;end;when grudge0=1;end;", 7);
        for (int sign = 0; sign < 256; sign++) {
            boolean token = "abcdefghijklmnopqrstuvwxyz0123456789;<>=".indexOf(sign) >= 0;
            String text = "any;" + (char) sign;
            if (sign == 10 || sign == 32) {
                taken(text, 1);
            } else {
                faulty(text, token ? 2 : 1, 4);
            }
        }
        faulty("quarrelx 0;", 2, 0);
        faulty("any`;", 1, 3);
        faulty("any{;", 1, 3);
        faulty("quarrel 0/;", 1, 9);
        faulty("quarrel 0:;", 1, 9);
        faulty("whenhome a;", 2, 0);
        faulty("calm ab 1;", 3, 5);
    }

    private static void fault1() {
        StringBuilder ahead = new StringBuilder();
        for (String token : TOKENS) {
            faultyBehind(ahead.toString(), "!" + token, 1);
            faultyBehind(ahead.toString(), "00000", 1);
            faultyBehind(ahead.toString(), "" + (char) 255, 1);
            ahead.append(token).append(' ');
        }
        faultyBehind(ahead.toString(), "!", 1);
        taken(ahead.toString(), 12);
    }

    private static void fault2AtEachToken() {
        StringBuilder ahead = new StringBuilder();
        for (String token : TOKENS) {
            boolean number = Character.isDigit(token.charAt(0));
            faultyBehind(ahead.toString(), number ? "a" : "5", 2);
            faultyBehind(ahead.toString(), token.equals(";") ? "end" : ";", 2);
            faultyBehind(ahead.toString(), "odds", 2);
            faultyBehind(ahead.toString(), "abcdefghi", 2);
            faultyBehind(ahead.toString(), token.equals("<") || token.equals("=") ? ";" : "<", 2);
            ahead.append(token).append(' ');
        }
    }

    private static void fault2AtTheEnd() {
        String[] texts = {"quarrel 0;", "make 0;", "night 1;", "calm a 1;", "any;", "stop;", "loop 1;any;end;",
            "when home a;any;end;", "when lives a b;any;end;", "when grudge 0<1;any;end;", "when temper a>1;any;end;"};
        for (String text : texts) {
            for (int n = 1; n < text.length(); n++) {
                boolean inWord = Character.isLetter(text.charAt(n - 1)) && Character.isLetter(text.charAt(n));
                if (!inWord) {
                    faulty(text.substring(0, n), 2, n);
                    faulty(text.substring(0, n) + " \n", 2, n + 2);
                }
            }
        }
        faulty(" ".repeat(297) + "any", 2, 300);
        faulty("loop 1;" + " ".repeat(293), 2, 300);
    }

    private static void fault2OfEnds() {
        faulty("end;", 2, 0);
        faulty("end", 2, 0);
        faulty("any;end;", 2, 4);
        faulty("loop 1;end;end;", 2, 11);
        faulty("loop 1;loop 1;end;end;end;", 2, 22);
        faulty("loop 1;", 2, 7);
        faulty("loop 1;loop 1;end;", 2, 18);
        faulty("loop 1;loop 1;loop 1;end;end;", 2, 29);
        faulty("when home a;", 2, 12);
        faulty("loop 1;end any;", 2, 11);
        faulty("loop 1;end 1;", 2, 11);
        faulty("loop 1;stop;", 2, 12);
    }

    private static void fault3() {
        String[][] names = {{"calm ", "c 1;"}, {"when home ", "c;end;"}, {"when lives ", "c a;end;"},
            {"when lives a ", "c;end;"}, {"when temper ", "c = 1;end;"}, {"calm ", "aa 1;"}, {"calm ", "abcdefgh 1;"}};
        for (String[] n : names) {
            faultyBehind(n[0], n[1], 3);
        }
        // one who came has no NAME; one who is gone has none, too
        QuarrelKeys x = Check.with("person a;");
        x.come();
        Check.due("11 one who came", Check.decades(x, "calm b 1;"), -1);
        Check.due("11 one who came, FAULT", x.fault(0) * 100 + x.fault(1), 305);
        Check.quarter(x, "person c;");
        Check.due("11 one who is gone", Check.decades(x, "calm a 1;"), -1);
        Check.due("11 one who is gone, FAULT", x.fault(0) * 100 + x.fault(1), 305);
        Check.fine(x, "11 one who is there", Check.decades(x, "calm c 1;"), 1);
    }

    private static void fault4() {
        faulty("quarrel 1;", 4, 8);
        faulty("make 1;", 4, 5);
        faulty("night 0;", 4, 6);
        faulty("night 41;", 4, 6);
        faulty("calm a 10;", 4, 7);
        faulty("loop 0;", 4, 5);
        faulty("loop 100;", 4, 5);
        faulty("when grudge 1=0;", 4, 12);
        faulty("when grudge 0=10;", 4, 14);
        faulty("when temper a=10;", 4, 14);
    }

    private static void thirtyAndOneMore() {
        String thirty = "any;".repeat(30);
        taken("any;".repeat(29), 29);
        taken(thirty, 30);
        taken(thirty + " \n", 30);
        for (String step : new String[] {"any;", "any", "stop;", "quarrel 0;", "make", "night 0;", "calm z;", "loop", "when!"}) {
            faultyBehind(thirty, step, 6);
        }
        faultyBehind(thirty, "end;", 2);
        faultyBehind(thirty, "odds", 2);
        faultyBehind(thirty, "!", 1);
        // end is none
        String ends = "loop 1;end;".repeat(20) + "loop 1;" + "any;".repeat(9) + "end;";
        taken(ends, 30);
        faultyBehind(ends, "any;", 6);
        faultyBehind(ends, "end;", 2);
        // thirty STEPS that have an end each are just 300 bytes; all of them are kept
        Edge.taken("11 thirty loops, each one lived", Edge.with(TWO, "loop9;end;".repeat(30)), x -> x.live(0), 30);
        QuarrelKeys last = Check.with(TWO, "loop9;end;".repeat(29) + "night 7;");
        Check.fine(last, "11 a STEP behind 29 ends", last.live(0), 30);
        Check.fine(last, "11 a STEP behind 29 ends is lived", last.lived(1), 7);
        taken("loop9;end;".repeat(30), 30);
        taken("loop9;".repeat(3) + "end;".repeat(3) + "loop9;end;".repeat(27), 30);
        // STEPS inside count as those outside
        faultyBehind("loop 1;" + "any;".repeat(29), "any;", 6);
        taken("loop 1;" + "any;".repeat(29) + "end;", 30);
    }

    private static void threeDeepAndOneMore() {
        taken("loop 1;loop 1;loop 1;any;end;end;end;", 4);
        taken("when home a;when home a;when home a;any;end;end;end;", 4);
        faultyBehind("loop 1;loop 1;loop 1;", "loop 1;end;end;end;end;", 7);
        faultyBehind("loop 1;loop 1;loop 1;", "when home a;", 7);
        faultyBehind("when home a;when home a;when home a;", "when home a;", 7);
        faultyBehind("when home a;loop 1;when home a;", "loop", 7);
        faultyBehind("loop 1;loop 1;loop 1;end;loop 1;", "loop 1;", 7);
        taken("loop 1;loop 1;loop 1;end;loop 1;end;end;loop 1;loop 1;end;end;end;", 6);
        taken("loop 1;loop 1;loop 1;end;end;end;loop 1;loop 1;loop 1;end;end;end;", 6);
    }

    private static void theFirstAlongTheText() {
        faulty("night 41;!", 4, 6);
        faulty("!night 41;", 1, 0);
        faulty("calm c 10;", 3, 5);
        faulty("calm c 12345;", 3, 5);
        faulty("calm a 10!", 4, 7);
        faulty("when lives c d;", 3, 11);
        faulty("when grudge 1=10;", 4, 12);
        faulty("loop 0;loop 0;", 4, 5);
        faulty("loop 1;night 0;", 4, 13);
        faulty("quarrel 1", 4, 8);
        faultyBehind("any;".repeat(30), "night 41;", 6);
        faultyBehind("loop 1;loop 1;loop 1;", "loop 0;", 7);
        faulty("loop 1;loop 1;loop 0;loop 1;", 4, 19);
    }

    private static void ofOneTokenTheLeastKind() {
        // 1 ahead of 2 and 4
        faulty("night 10000;", 1, 6);
        faulty("calm 10000;", 1, 5);
        faulty("any 10000;", 1, 4);
        // 2 ahead of 3: no NAME at all
        faulty("calm abcdefghi 1;", 2, 5);
        faulty("calm any 1;", 2, 5);
        faulty("when home temper;", 2, 10);
        // 2 ahead of 6 and 7: the WORD can't stand there
        faultyBehind("any;".repeat(29) + "any ", "any;", 2);
        faultyBehind("loop 1;loop 1;loop 1;any ", "loop 1;", 2);
        faultyBehind("loop 1;loop 1;when ", "when home a;", 2);
        // 6 ahead of 7
        faultyBehind("any;".repeat(27) + "loop 1;loop 1;loop 1;", "loop 1;", 6);
        faultyBehind("any;".repeat(26) + "loop 1;loop 1;loop 1;", "loop 1;", 7);
    }
}
