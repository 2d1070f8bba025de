/** Promises 51 and 52: MARKS. */
public final class MarksTest {
    public static void main(String[] args) {
        atMostThree();
        backTakesAllBack();
        backToTheLatest();
        marksOutliveAQuarter();
        decadesAreKept();
        whatIsNotTakenBack();
        Check.end("MarksTest");
    }

    private static void atMostThree() {
        QuarrelKeys x = Check.with("person a;");
        Check.refused(x, "back() without a mark", y -> y.back(), 8);
        for (int i = 1; i <= 3; i++) {
            Check.fine(x, "mark()", x.mark(), i);
        }
        Check.refused(x, "mark() of a fourth", y -> y.mark(), 7);
        for (int i = 2; i >= 0; i--) {
            Check.fine(x, "back()", x.back(), i);
        }
        Check.refused(x, "back() of none left", y -> y.back(), 8);
        Check.fine(x, "mark()", x.mark(), 1);
    }

    private static void backTakesAllBack() {
        QuarrelKeys x = Check.with("odds 3;cool 4;person a temper 4;person b;person c;stair a b grudge 2;like a b 9;"
            + "swap a c;", "night 1;");
        Check.fine(x, "quarrel(0)", x.quarrel(0), 3);
        x.night(3);
        x.tell(0, 1, 5);
        Check.fine(x, "makeUp(0)", x.makeUp(0), 2);
        String before = Check.sight(x);
        Check.fine(x, "mark()", x.mark(), 1);
        Check.due("a mark changes nothing", Check.sight(x), before);
        x.calm(0, 9);
        Check.fine(x, "quarrel(0)", x.quarrel(0), 3);
        Check.fine(x, "makeUp(0)", x.makeUp(0), 2);
        x.night(7);
        x.calm(1, 9);
        x.tell(0, 1, 0);
        x.tell(2, 2, 1);
        x.swap(0, 1);
        x.come();
        x.build(0, 2);
        x.rule(2, 1);
        x.rule(3, 1);
        Check.fine(x, "back()", x.back(), 0);
        Check.due("all is taken back", Check.sight(x), before);
    }

    private static void backToTheLatest() {
        QuarrelKeys x = Check.with("person a;person b;person c;");
        x.mark();
        x.swap(0, 1);
        x.mark();
        x.swap(1, 2);
        x.mark();
        x.swap(0, 2);
        Check.due("lives", Check.lives(x), "021");
        x.back();
        Check.due("lives", Check.lives(x), "120");
        x.swap(0, 1);
        x.mark();
        x.swap(0, 1);
        x.back();
        Check.due("lives", Check.lives(x), "210");
        x.back();
        Check.due("lives", Check.lives(x), "102");
        x.back();
        Check.due("lives", Check.lives(x), "012");
    }

    private static void marksOutliveAQuarter() {
        QuarrelKeys x = Check.with("odds 1;person old;person b;stair old b;");
        x.mark();
        Check.quarter(x, "person new;");
        Check.due("people", x.many(0), 1);
        Check.fine(x, "back()", x.back(), 0);
        Check.due("people", x.many(0), 2);
        Check.due("odds", x.many(2), 1);
        Check.fine(x, "decades by a name that is back", Check.decades(x, "calm old 1;"), 1);
        Check.due("decades by a name that is gone", Check.decades(x, "calm new 1;"), -1);
        Check.due("fault(0)", x.fault(0), 3);
    }

    private static void decadesAreKept() {
        QuarrelKeys x = Check.with("person a;", "loop 2;night 3;end;");
        x.mark();
        Check.decades(x, "night 1;");
        Check.fine(x, "live(0)", x.live(0), 1);
        x.back();
        Check.fine(x, "live(0) of those that are back", x.live(0), 3);
        Check.fine(x, "nights", x.lived(1), 6);
        Check.quarter(x, "person a;");
        x.mark();
        Check.decades(x, "night 1;");
        x.back();
        Check.refused(x, "live(0): there were none", y -> y.live(0), 8);
        Check.decades(x, "night 2;");
        x.mark();
        Check.quarter(x, "");
        Check.refused(x, "live(0): a new quarter has none", y -> y.live(0), 8);
        x.back();
        Check.fine(x, "live(0): they are back", x.live(0), 1);
    }

    private static void whatIsNotTakenBack() {
        QuarrelKeys x = Check.with("person a;person b;stair a b;", "night 1;");
        x.mark();
        Check.lay(x, 0, 7);
        x.live(0);
        x.drift(0, 1, 1);
        Check.decades(x, "go");
        x.feed(0, 0, 0, 0, 0);
        x.back();
        Check.due("a tray", x.read(0, 0), 7);
        Check.due("lived(1)", x.lived(1), 1);
        Check.due("top()", x.top(), 1);
        Check.due("fault(0)", x.fault(0), 2);
        Check.due("the tape", x.feed(0, 0, 0, 0, 0), 40);
    }
}
