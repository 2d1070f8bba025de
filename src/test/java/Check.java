import java.nio.charset.StandardCharsets;

/** What the tests share: answers that are due, texts that are fed, and all that can be seen of an object. */
final class Check {
    private static int asked = 0;
    private static int wrong = 0;

    private Check() {
    }

    static void due(String call, long got, long want) {
        asked++;
        if (got != want) {
            wrong++;
            System.out.println(call + " answered " + got + ", due is " + want);
        }
    }

    static void due(String call, boolean got, boolean want) {
        due(call, got ? 1 : 0, want ? 1 : 0);
    }

    static void due(String call, String got, String want) {
        asked++;
        if (!got.equals(want)) {
            wrong++;
            System.out.println(call + "\n   answered " + got + "\n   due is   " + want);
        }
    }

    /** The answer that is due, with STATUS 0. */
    static void fine(QuarrelKeys x, String call, long got, long want) {
        due(call, got, want);
        due(call + ", then status()", x.status(), 0);
    }

    static void fine(QuarrelKeys x, String call, boolean got) {
        fine(x, call, got ? 1 : 0, 1);
    }

    /** A call of numbers that is refused must change nothing but STATUS. */
    static void refused(QuarrelKeys x, String call, Call what, int status) {
        String before = sight(x);
        due(call, what.answer(x), QuarrelKeys.NONE);
        due(call + ", then status()", x.status(), status);
        due(call + ", then all that can be seen", sight(x), before);
    }

    /** Likewise a call that answers true or false. */
    static void denied(QuarrelKeys x, String call, Deed what, int status) {
        String before = sight(x);
        due(call, what.done(x), false);
        due(call + ", then status()", x.status(), status);
        due(call + ", then all that can be seen", sight(x), before);
    }

    interface Call {
        long answer(QuarrelKeys x);
    }

    interface Deed {
        boolean done(QuarrelKeys x);
    }

    /** Feeds a text, with blanks behind it up to twenty bytes; how many bytes the tape has then. */
    static int feed(QuarrelKeys x, byte[] text) {
        int has = 0;
        for (int i = 0; i < text.length; i += 20) {
            has = x.feed(four(text, i), four(text, i + 4), four(text, i + 8), four(text, i + 12), four(text, i + 16));
        }
        return has;
    }

    private static int four(byte[] text, int from) {
        int four = 0;
        for (int i = from; i < from + 4; i++) {
            four = four << 8 | (i < text.length ? text[i] & 255 : 32);
        }
        return four;
    }

    static byte[] bytes(String text) {
        return text.getBytes(StandardCharsets.ISO_8859_1);
    }

    static int quarter(QuarrelKeys x, String text) {
        feed(x, bytes(text));
        return x.quarter(text.length());
    }

    static int decades(QuarrelKeys x, String text) {
        feed(x, bytes(text));
        return x.decades(text.length());
    }

    /** A new object with that QUARTER, which must be taken. */
    static QuarrelKeys with(String text) {
        QuarrelKeys x = new QuarrelKeys();
        quarter(x, text);
        due("quarter of \"" + text + "\", then status()", x.status(), 0);
        return x;
    }

    /** A new object with that QUARTER and those DECADES, which must be taken. */
    static QuarrelKeys with(String text, String decades) {
        QuarrelKeys x = with(text);
        decades(x, decades);
        due("decades of \"" + decades + "\", then status()", x.status(), 0);
        return x;
    }

    /** A TRAY of 64 bits with these numbers. */
    static void lay(QuarrelKeys x, int tray, long... numbers) {
        fine(x, "tray(" + tray + ")", x.tray(tray, 3, numbers.length));
        for (int i = 0; i < numbers.length; i++) {
            x.write(tray, i, numbers[i]);
        }
    }

    static String lives(QuarrelKeys x) {
        StringBuilder all = new StringBuilder();
        for (int p = 0; p < x.many(0); p++) {
            all.append(x.person(p, 1));
        }
        return all.toString();
    }

    /** All that an object tells without changing, but for STATUS and the tape. */
    static String sight(QuarrelKeys x) {
        StringBuilder all = new StringBuilder();
        all.append(x.top()).append('/').append(x.bottom());
        all.append(" fault ").append(x.fault(0)).append(' ').append(x.fault(1));
        for (int what = 0; what < 10; what++) {
            all.append(what == 0 ? " many " : ",").append(x.many(what));
        }
        for (int p = 0; p < 7; p++) {
            all.append(" person ");
            for (int what = 0; what < 5; what++) {
                all.append(x.person(p, what)).append(',');
            }
            for (int h = 0; h < 7; h++) {
                all.append(x.likes(p, h)).append(',');
            }
        }
        for (int s = 0; s < 10; s++) {
            all.append(" stair ");
            for (int what = 0; what < 6; what++) {
                all.append(x.stair(s, what)).append(',');
            }
        }
        for (int t = 0; t < 4; t++) {
            all.append(" tray ");
            for (int i = 0; i < 60; i++) {
                long v = x.read(t, i);
                if (x.status() != 0) {
                    all.append(x.status()).append('!');
                    break;
                }
                all.append(v).append(',');
            }
        }
        all.append(" lived ");
        for (int what = 0; what < 5; what++) {
            all.append(x.lived(what)).append(',');
        }
        return all.toString();
    }

    static void end(String test) {
        System.out.println(test + ": " + asked + " answers, " + wrong + " not as due");
        if (wrong != 0 || asked == 0) {
            System.exit(1);
        }
    }
}
