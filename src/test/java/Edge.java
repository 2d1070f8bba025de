import java.util.IdentityHashMap;
import java.util.Map;

/**
 * What the tests of boundaries share. Each boundary is asked on an object of its own, and a call that is
 * refused is held against a twin on which it was not made: the tape, DECADES and MARKS count, too.
 */
final class Edge {
    static final int MIN = Integer.MIN_VALUE;
    static final int MAX = Integer.MAX_VALUE;
    static final int BLANKS = 0x20202020;
    static final String SEVEN = "person a;person b;person c;person d;person e;person f;person g;";
    static final String LINE = "stair a b;stair b c;stair c d;stair d e;stair e f;stair f g;";
    /** Seven with TEMPER, ten STAIRS with a GRUDGE: no two numbers are alike where they could be mixed up. */
    static final String FULL_TEXT = "odds 9;cool 4;person a temper 4;person b temper 5;person c temper 6;"
        + "person d temper 0;person e temper 9;person f;person g temper 8;stair a b grudge 1;stair b c grudge 2;"
        + "stair c d;stair d e grudge 4;stair e f grudge 9;stair f g;stair g a grudge 3;stair a c;stair b d grudge 8;"
        + "stair c e;like a b 9;like a c 0;like b d 7;like c a 8;like d d 1;like e e 9;like g f 6;like f g 2;"
        + "swap a c;swap c e;swap f g;";
    static final String FULL_DECADES = "loop 3;any;quarrel 2;end;make 0;night 2;calm a 1;when home b;any;end;";

    static final Maker BARE = QuarrelKeys::new;
    /** Seven, ten STAIRS, three MARKS, DECADES that were lived, TRAYS 0 to 2, a FAULT, a FRACTION, a tape. */
    static final Maker FULL = Edge::full;
    /** Three, two STAIRS, one MARK, TRAY 0 of four numbers of 64 bits, DECADES that were not lived. */
    static final Maker SOME = Edge::some;

    private static final Map<Maker, String> KNOWN = new IdentityHashMap<>();

    private Edge() {
    }

    interface Maker {
        QuarrelKeys make();
    }

    private static QuarrelKeys full() {
        QuarrelKeys x = Check.with(FULL_TEXT, "any;night 1;");
        x.mark();
        x.swap(1, 3);
        x.night(4);
        x.mark();
        Check.decades(x, "night 7;");
        x.tell(2, 2, 9);
        x.rule(3, 2);
        x.mark();
        Check.decades(x, FULL_DECADES);
        x.live(17);
        x.calm(5, 7);
        x.drift(0, 1, 2);
        Check.decades(x, "calm nobody 1;");
        fillTray(x, 0, 0, 60);
        fillTray(x, 1, 1, 5);
        fillTray(x, 2, 3, 8);
        Check.feed(x, Check.bytes("person tape temper 7;"));
        x.many(0);
        return x;
    }

    private static QuarrelKeys some() {
        QuarrelKeys x = Check.with("person a temper 9;person b;person c;stair a b grudge 1;stair b c;like a c 7;like b b 9;"
            + "swap b c;", "quarrel 0;night 3;any;");
        x.mark();
        x.swap(0, 1);
        fillTray(x, 0, 3, 4);
        x.many(0);
        return x;
    }

    private static void fillTray(QuarrelKeys x, int tray, int sort, int many) {
        x.tray(tray, sort, many);
        for (int i = 0; i < many; i++) {
            x.write(tray, i, i % 7 - (long) tray);
        }
    }

    static Maker with(String quarter) {
        return () -> Check.with(quarter);
    }

    static Maker with(String quarter, String decades) {
        return () -> Check.with(quarter, decades);
    }

    static void taken(String edge, Maker maker, Check.Call call, long due) {
        QuarrelKeys x = maker.make();
        Check.fine(x, edge, call.answer(x), due);
    }

    static void done(String edge, Maker maker, Check.Deed deed) {
        QuarrelKeys x = maker.make();
        Check.fine(x, edge, deed.done(x));
    }

    static void refused(String edge, Maker maker, Check.Call call, int status) {
        QuarrelKeys x = maker.make();
        Check.due(edge, call.answer(x), QuarrelKeys.NONE);
        changedNothing(edge, maker, x, status);
    }

    static void denied(String edge, Maker maker, Check.Deed deed, int status) {
        QuarrelKeys x = maker.make();
        Check.due(edge, deed.done(x), false);
        changedNothing(edge, maker, x, status);
    }

    private static void changedNothing(String edge, Maker maker, QuarrelKeys x, int status) {
        Check.due(edge + ", then status()", x.status(), status);
        String due = KNOWN.get(maker);
        if (due == null) {
            due = allOf(maker.make());
            KNOWN.put(maker, due);
        }
        Check.due(edge + ", then all there is", allOf(x), due);
    }

    /** All there is in an object; it is used up by that. */
    static String allOf(QuarrelKeys x) {
        StringBuilder all = new StringBuilder();
        allButTheTape(x, all);
        int has = x.feed(BLANKS, BLANKS, BLANKS, BLANKS, BLANKS);
        all.append("\n tape ").append(has);
        all.append(' ').append(x.quarter(has == QuarrelKeys.NONE ? 900 : has - 20)).append(' ').append(Check.sight(x));
        return all.toString();
    }

    static void allButTheTape(QuarrelKeys x, StringBuilder all) {
        all.append(Check.sight(x));
        addLife(x, all);
        for (int i = 0; i < 4; i++) {
            all.append("\n back ").append(x.back()).append(' ').append(Check.sight(x));
            addLife(x, all);
        }
    }

    /** What the DECADES do tells which they are. */
    private static void addLife(QuarrelKeys x, StringBuilder all) {
        all.append("\n mean ").append(x.mean(40, 20)).append(' ').append(x.top()).append('/').append(x.bottom());
        all.append(" live ").append(x.live(3)).append(' ').append(Check.sight(x));
    }
}
