/** Promises 51 and 52, boundary by boundary: MARKS. */
public final class EdgesOfMarksTest {
    public static void main(String[] args) {
        promise51Mark();
        promise52Back();
        promise52EachDeed();
        promise52Texts();
        promise52InOrder();
        promise52WhatStays();
        Check.end("EdgesOfMarksTest");
    }

    private static void promise51Mark() {
        QuarrelKeys x = Check.with("person a;");
        for (int i = 1; i <= 3; i++) {
            Check.fine(x, "51 MARK " + i, x.mark(), i);
        }
        Check.refused(x, "51 a fourth", y -> y.mark(), 7);
        Edge.refused("51 a fourth of a full one", Edge.FULL, y -> y.mark(), 7);
        Check.fine(x, "52 back", x.back(), 2);
        Check.fine(x, "51 a third again", x.mark(), 3);
        Check.refused(x, "51 a fourth again", y -> y.mark(), 7);
        Edge.taken("51 of nobody", Edge.BARE, y -> y.mark(), 1);
        QuarrelKeys y = Edge.SOME.make();
        String before = Check.sight(y);
        Check.fine(y, "51 a second", y.mark(), 2);
        Check.due("51 it changes nothing", Check.sight(y), before);
    }

    private static void promise52Back() {
        Edge.refused("52 none of a new object", Edge.BARE, x -> x.back(), 8);
        QuarrelKeys x = Edge.FULL.make();
        for (int left = 2; left >= 0; left--) {
            Check.fine(x, "52 left", x.back(), left);
        }
        Check.refused(x, "52 none left", y -> y.back(), 8);
        Check.fine(x, "51 the first again", x.mark(), 1);
        Check.fine(x, "52 the last one", x.back(), 0);
        Check.refused(x, "52 it is gone then", y -> y.back(), 8);
    }

    /** A deed behind a MARK, then back: all is as in a twin that did neither. */
    private static void takenBack(String edge, Check.Call deed) {
        QuarrelKeys x = Edge.SOME.make();
        QuarrelKeys twin = Edge.SOME.make();
        x.mark();
        String before = Check.sight(x);
        deed.answer(x);
        Check.due("52 " + edge + ": STATUS", x.status(), 0);
        Check.due("52 " + edge + ": it did something", Check.sight(x).equals(before), false);
        Check.fine(x, "52 " + edge + ": back", x.back(), 1);
        Check.due("52 " + edge + " is taken back", Edge.allOf(x), Edge.allOf(twin));
    }

    private static void promise52EachDeed() {
        takenBack("quarrel", x -> x.quarrel(0));
        takenBack("tell and makeUp", x -> {
            x.tell(0, 0, 9);
            return x.makeUp(0);
        });
        takenBack("night", x -> x.night(2));
        takenBack("calm", x -> x.calm(2, 0));
        takenBack("tell", x -> x.tell(0, 2, 1));
        takenBack("swap", x -> x.swap(1, 2));
        takenBack("come", x -> x.come());
        takenBack("build", x -> x.build(0, 2));
        takenBack("rule of ODDS", x -> x.rule(2, 1) ? 1 : 0);
        takenBack("rule of COOL", x -> x.rule(3, 1) ? 1 : 0);
        takenBack("come and build", x -> {
            x.come();
            x.tell(3, 0, 9);
            x.tell(0, 3, 9);
            return x.build(3, 0);
        });
    }

    private static void promise52Texts() {
        QuarrelKeys x = Edge.SOME.make();
        x.mark();
        Check.decades(x, "night 9;night 9;");
        Check.fine(x, "52 live of others", x.live(0), 2);
        x.back();
        Check.fine(x, "52 DECADES are taken back", x.live(0), 3);
        QuarrelKeys y = Check.with("person a;");
        y.mark();
        Check.decades(y, "night 1;");
        y.back();
        Check.refused(y, "52 none are taken back, too", z -> z.live(0), 8);
        QuarrelKeys z = Check.with("person old;person b;stair old b;", "quarrel 0;night 2;");
        z.mark();
        Check.quarter(z, "person young;");
        Check.refused(z, "52 a new QUARTER has no DECADES", w -> w.live(0), 8);
        Check.fine(z, "52 back to the QUARTER ahead", z.back(), 0);
        Check.fine(z, "52 its DECADES are there", z.live(0), 2);
        Check.fine(z, "52 its NAMES are there", Check.decades(z, "calm old 1;"), 1);
        Check.due("52 the other one's are not", Check.decades(z, "calm young 1;"), -1);
        Check.due("52 the other one's are not, FAULT", z.fault(0) * 100 + z.fault(1), 305);
        // a full one is taken back to nobody, and nobody to a full one
        QuarrelKeys w = new QuarrelKeys();
        w.mark();
        Check.quarter(w, Edge.FULL_TEXT);
        w.mark();
        w.quarter(0);
        Check.due("52 nobody", w.many(0), 0);
        w.back();
        Check.due("52 seven, ten STAIRS", w.many(0) * 100 + w.many(1), 710);
        w.back();
        Check.due("52 nobody again", w.many(0) * 100 + w.many(1), 0);
        Check.due("52 ODDS, COOL of a new one", w.many(2) * 10 + w.many(3), 85);
    }

    private static void promise52InOrder() {
        QuarrelKeys x = Check.with("person a;person b;person c;");
        String[] lives = new String[4];
        int[][] swaps = {{0, 1}, {1, 2}, {0, 1}};
        for (int i = 0; i < 3; i++) {
            lives[i] = Check.lives(x);
            x.mark();
            x.swap(swaps[i][0], swaps[i][1]);
        }
        for (int i = 2; i >= 0; i--) {
            Check.fine(x, "52 back to MARK " + i, x.back(), i);
            Check.due("52 as at MARK " + i, Check.lives(x), lives[i]);
        }
        // a MARK is kept as it is, whatever comes behind it
        x.mark();
        x.swap(0, 2);
        x.mark();
        x.back();
        Check.due("52 the latest", Check.lives(x), "210");
        x.swap(0, 1);
        x.back();
        Check.due("52 the first", Check.lives(x), "012");
        // two MARKS of the same
        x.mark();
        x.mark();
        x.swap(0, 1);
        x.back();
        Check.due("52 the second of two alike", Check.lives(x), "012");
        x.swap(1, 2);
        x.back();
        Check.due("52 the first of two alike", Check.lives(x), "012");
    }

    private static void promise52WhatStays() {
        QuarrelKeys x = Edge.SOME.make();
        x.mark();
        x.tray(3, 0, 2);
        x.write(3, 1, 6);
        x.write(0, 0, 77);
        Check.fine(x, "52 a lives in c's", x.drift(0, 2, 0));
        x.live(0);
        Check.quarter(x, "!");
        x.feed(Edge.BLANKS, Edge.BLANKS, Edge.BLANKS, Edge.BLANKS, Edge.BLANKS);
        int nights = x.lived(1);
        x.back();
        Check.due("52 a TRAY stays", x.read(3, 1), 6);
        Check.due("52 a number stays", x.read(0, 0), 77);
        Check.due("52 what lived() tells stays", x.lived(1), nights);
        Check.due("52 the FRACTION stays", x.top() * 10 + x.bottom(), 11);
        Check.due("52 what fault() tells stays", x.fault(0), 1);
        Check.due("52 the tape stays", x.feed(0, 0, 0, 0, 0), 40);
    }
}
