/** Promises 9 to 12, boundary by boundary: the tape, how much of it is a text, what fault() tells. */
public final class EdgesOfTapeTest {
    private static final Edge.Maker BRIM = EdgesOfTapeTest::brim;

    public static void main(String[] args) {
        promise9Fills();
        promise9Bytes();
        promise10Lengths();
        promise10Empties();
        promise10TheOldOneStays();
        promise10TheNewOneBegins();
        promise11Lengths();
        promise11Empties();
        promise11TheOldOnesStay();
        promise12Fault();
        Check.end("EdgesOfTapeTest");
    }

    /** A tape of 900 bytes, all blanks but for the last part. */
    private static QuarrelKeys brim() {
        QuarrelKeys x = new QuarrelKeys();
        Check.feed(x, Check.bytes(" ".repeat(891) + "person a;"));
        x.many(0);
        return x;
    }

    private static int blanks(QuarrelKeys x) {
        return x.feed(Edge.BLANKS, Edge.BLANKS, Edge.BLANKS, Edge.BLANKS, Edge.BLANKS);
    }

    private static void promise9Fills() {
        QuarrelKeys x = new QuarrelKeys();
        for (int i = 1; i <= 45; i++) {
            Check.due("9 feed " + i, blanks(x), 20 * i);
        }
        Check.due("9 feed 46", blanks(x), -1);
        Check.due("9 feed 47", x.feed(0, 0, 0, 0, 0), -1);
        Check.due("9 STATUS behind feed", x.status(), 0);
        Check.fine(x, "9 a refused feed leaves 900 blanks", x.quarter(900), 0);
        Check.due("9 the tape is empty then", blanks(x), 20);
        QuarrelKeys y = BRIM.make();
        Check.due("9 refused behind 900 bytes", y.feed(0x2e2e2e2e, 1, 2, 3, 4), -1);
        Check.fine(y, "9 all 900 bytes are as they were", y.quarter(900), 1);
        QuarrelKeys z = Edge.FULL.make();
        StringBuilder before = new StringBuilder();
        Edge.allButTheTape(Edge.FULL.make(), before);
        blanks(z);
        StringBuilder behind = new StringBuilder();
        Edge.allButTheTape(z, behind);
        Check.due("9 feed changes the tape alone", behind.toString(), before.toString());
    }

    /** One byte in each place of a feed: it can't be a TOKEN, so its place is told. */
    private static void promise9Bytes() {
        for (int place = 0; place < 20; place++) {
            for (int sign : new int[] {0, 1, 127, 128, 255}) {
                int[] five = {Edge.BLANKS, Edge.BLANKS, Edge.BLANKS, Edge.BLANKS, Edge.BLANKS};
                int shift = 24 - 8 * (place % 4);
                five[place / 4] = five[place / 4] & ~(255 << shift) | sign << shift;
                QuarrelKeys x = new QuarrelKeys();
                blanks(x);
                Check.due("9 feed", x.feed(five[0], five[1], five[2], five[3], five[4]), 40);
                Check.due("9 byte " + sign + " in place " + place, x.quarter(40) * 100 + x.fault(1), -100 + 20 + place);
                Check.due("9 byte " + sign + " is no TOKEN", x.fault(0), 1);
            }
        }
        QuarrelKeys x = new QuarrelKeys();
        // "pers" "on b" ";odd" "s 7;" "cool", then "   9" ";   "
        x.feed(0x70657273, 0x6f6e2062, 0x3b6f6464, 0x7320373b, 0x636f6f6c);
        x.feed(0x20202039, 0x3b202020, Edge.BLANKS, Edge.BLANKS, 0x0a0a0a0a);
        Check.fine(x, "9 bytes behind those of the feed ahead", x.quarter(40), 1);
        Check.due("9 odds", x.many(2), 7);
        Check.due("9 cool", x.many(3), 9);
    }

    private static void promise10Lengths() {
        Edge.taken("10 none of an empty tape", Edge.BARE, x -> x.quarter(0), 0);
        Edge.taken("10 none of a tape", Edge.FULL, x -> x.quarter(0), 0);
        Edge.taken("10 all of a tape", Edge.FULL, x -> x.quarter(40), 1);
        Edge.taken("10 just the text", Edge.FULL, x -> x.quarter(21), 1);
        Edge.taken("10 all of 900", BRIM, x -> x.quarter(900), 1);
        Edge.taken("10 all but the part of 900", BRIM, x -> x.quarter(891), 0);
        for (int n : new int[] {-1, 41, 900, 901, Edge.MIN, Edge.MAX}) {
            Edge.refused("10 quarter(" + n + ") of 40", Edge.FULL, x -> x.quarter(n), 5);
        }
        for (int n : new int[] {-1, 1, 20, Edge.MIN, Edge.MAX}) {
            Edge.refused("10 quarter(" + n + ") of an empty tape", Edge.BARE, x -> x.quarter(n), 5);
        }
        for (int n : new int[] {-1, 901, 920, Edge.MAX}) {
            Edge.refused("10 quarter(" + n + ") of 900", BRIM, x -> x.quarter(n), 5);
        }
        QuarrelKeys x = BRIM.make();
        Check.due("10 one byte short of 900", x.quarter(899), -1);
        Check.due("10 one byte short of 900, STATUS", x.status(), 10);
        Check.due("10 one byte short of 900, FAULT", x.fault(0) * 1000 + x.fault(1), 2899);
    }

    private static void promise10Empties() {
        QuarrelKeys x = Edge.FULL.make();
        Check.fine(x, "10 quarter(21) of 40", x.quarter(21), 1);
        Check.refused(x, "10 what stood behind is gone, too", y -> y.quarter(1), 5);
        Check.due("10 the tape is empty behind 0", blanks(x), 20);
        Check.fine(x, "10 blanks", x.quarter(20), 0);
        Check.due("10 a FAULT", Check.quarter(x, "person"), -1);
        Check.due("10 a FAULT, STATUS", x.status(), 10);
        Check.refused(x, "10 the tape is empty behind 10", y -> y.quarter(1), 5);
        blanks(x);
        Check.refused(x, "10 5 leaves the tape", y -> y.quarter(21), 5);
        Check.fine(x, "10 it is still there", x.quarter(20), 0);
    }

    private static void promise10TheOldOneStays() {
        for (String text : new String[] {"!", "odds 3;cool 3;person z;stair z", "person z;person z;", "cool 31;",
            "odds 1;odds", Edge.SEVEN + "person"}) {
            QuarrelKeys x = Edge.FULL.make();
            // FULL's own tape would stand ahead of the text: a FAULT empties it
            x.quarter(7);
            Check.due("10 a FAULT of \"" + text + "\"", Check.quarter(x, text), -1);
            Check.due("10 a FAULT of \"" + text + "\", STATUS", x.status(), 10);
            Check.due("10 all else is as it was", all(x), all(Edge.FULL.make()));
            Check.due("10 the tape is empty", blanks(x), 20);
        }
    }

    /** All but the tape and what fault() tells. */
    private static String all(QuarrelKeys x) {
        StringBuilder all = new StringBuilder();
        Edge.allButTheTape(x, all);
        return all.toString().replaceAll("fault \\S+ \\S+", "");
    }

    private static void promise10TheNewOneBegins() {
        QuarrelKeys x = Edge.FULL.make();
        Check.fine(x, "10 a new one", x.quarter(40), 1);
        int[] many = {1, 0, 8, 5, 0, 0, 0, 1, 7, 0};
        for (int what = 0; what < 10; what++) {
            Check.fine(x, "10 many(" + what + ") of a new one", x.many(what), many[what]);
        }
        Check.refused(x, "10 it has no DECADES", y -> y.live(0), 8);
        Check.denied(x, "10 it has no DECADES for mean", y -> y.mean(0, 1), 8);
        Check.refused(x, "10 the others are gone", y -> y.person(1, 0), 2);
        Check.refused(x, "10 the STAIRS are gone", y -> y.stair(0, 0), 2);
        Check.due("10 fault(0) of one that is taken", x.fault(0), 0);
        Check.due("10 fault(1) of one that is taken", x.fault(1), -1);
        Check.fine(x, "10 MARKS stay", x.back(), 2);
        Check.due("10 and have what was", x.many(0), 7);
    }

    private static QuarrelKeys longTape() {
        QuarrelKeys x = Edge.SOME.make();
        Check.feed(x, Check.bytes(" ".repeat(295) + "stop;stop;"));
        x.many(0);
        return x;
    }

    private static void promise11Lengths() {
        Edge.Maker made = EdgesOfTapeTest::longTape;
        Edge.taken("11 none of an empty tape", Edge.BARE, x -> x.decades(0), 0);
        Edge.taken("11 none of a tape", made, x -> x.decades(0), 0);
        Edge.taken("11 300 bytes", made, x -> x.decades(300), 1);
        Edge.taken("11 295 bytes", made, x -> x.decades(295), 0);
        for (int n : new int[] {-1, 301, 305, 320, 321, 900, Edge.MIN, Edge.MAX}) {
            Edge.refused("11 decades(" + n + ") of 320", made, x -> x.decades(n), 5);
        }
        for (int n : new int[] {-1, 41, 300, 301}) {
            Edge.refused("11 decades(" + n + ") of 40", Edge.FULL, x -> x.decades(n), 5);
        }
        Edge.refused("11 decades(1) of an empty tape", Edge.BARE, x -> x.decades(1), 5);
        Edge.refused("11 decades(301) of 900", BRIM, x -> x.decades(301), 5);
        Edge.taken("11 decades(300) of 900", BRIM, x -> x.decades(300), 0);
        QuarrelKeys x = made.make();
        Check.due("11 one byte short of 300", x.decades(299), -1);
        Check.due("11 one byte short of 300, FAULT", x.fault(0) * 1000 + x.fault(1), 2299);
    }

    private static void promise11Empties() {
        QuarrelKeys x = longTape();
        Check.fine(x, "11 decades(300) of 320", x.decades(300), 1);
        Check.refused(x, "11 what stood behind is gone, too", y -> y.decades(1), 5);
        Check.due("11 the tape is empty behind 0", blanks(x), 20);
        Check.refused(x, "11 5 leaves the tape", y -> y.decades(21), 5);
        Check.fine(x, "11 it is still there", x.decades(20), 0);
        Check.due("11 a FAULT", Check.decades(x, "end;"), -1);
        Check.due("11 a FAULT, STATUS", x.status(), 10);
        Check.refused(x, "11 the tape is empty behind 10", y -> y.decades(1), 5);
    }

    private static void promise11TheOldOnesStay() {
        for (String text : new String[] {"!", "night 9;loop 1;", "calm z 1;", "night 41;", "any;".repeat(31),
            "loop 1;loop 1;loop 1;loop 1;end;end;end;end;"}) {
            QuarrelKeys x = Edge.FULL.make();
            x.decades(7);
            Check.due("11 a FAULT of \"" + text + "\"", Check.decades(x, text), -1);
            Check.due("11 a FAULT of \"" + text + "\", STATUS", x.status(), 10);
            Check.due("11 all else is as it was", all(x), all(Edge.FULL.make()));
        }
        QuarrelKeys x = Edge.SOME.make();
        Check.fine(x, "11 those that are taken are there in place of the old ones", Check.decades(x, "night 2;"), 1);
        Check.fine(x, "11 live of one STEP", x.live(0), 1);
        Check.fine(x, "11 nights of the new ones", x.lived(1), 2);
        Check.fine(x, "11 those of no STEP", Check.decades(x, " \n "), 0);
        Check.fine(x, "11 are DECADES, too: live", x.live(0), 0);
        Check.fine(x, "11 are DECADES, too: mean", x.mean(0, 20));
    }

    private static void told(String edge, QuarrelKeys x, int fault, int place) {
        Check.due("12 " + edge + ", fault(0)", x.fault(0), fault);
        Check.due("12 " + edge + ", fault(1)", x.fault(1), place);
        for (int what : new int[] {-1, 2, 3, Edge.MIN, Edge.MAX}) {
            Check.due("12 " + edge + ", fault(" + what + ")", x.fault(what), -1);
        }
    }

    private static void promise12Fault() {
        QuarrelKeys x = new QuarrelKeys();
        told("ahead of any", x, -1, -1);
        x.quarter(1);
        x.decades(1);
        x.decades(-1);
        told("behind 5 alone", x, -1, -1);
        x.read(4, 0);
        x.quarter(0);
        told("a QUARTER that is taken", x, 0, -1);
        Check.quarter(x, "!");
        told("the first byte", x, 1, 0);
        x.quarter(1);
        x.decades(301);
        told("behind 5", x, 1, 0);
        x.decades(0);
        told("DECADES that are taken", x, 0, -1);
        Check.decades(x, "any;end;");
        told("DECADES", x, 2, 4);
        x.mark();
        Check.quarter(x, "person a;person a;");
        told("a QUARTER", x, 3, 16);
        x.back();
        x.many(10);
        x.live(0);
        told("it is not taken back", x, 3, 16);
        Check.quarter(x, " ".repeat(899) + "!");
        told("the last byte", x, 1, 899);
        Check.quarter(x, " ".repeat(896) + "odds");
        told("the end of 900 bytes", x, 2, 900);
        Check.decades(x, " ".repeat(297) + "any");
        told("the end of 300 bytes", x, 2, 300);
        Check.due("12 fault() has no STATUS", x.status(), 10);
    }
}
