import java.util.Random;

/** Long runs of calls by draws: every answer and every STATUS is held against PlainKeys. */
public final class RandomRunsTest {
    private static final String[] NAMES = {"al", "bo", "cy", "di", "ed", "fay", "g", "personne", "zz", "an"};
    private static final String[] TOKENS = {"odds", "cool", "person", "temper", "stair", "grudge", "like", "swap",
        "quarrel", "make", "night", "calm", "any", "when", "home", "lives", "loop", "end", "stop", ";", "<", ">", "=",
        "0", "1", "9", "10", "16", "17", "30", "31", "40", "41", "99", "100", "0009", "9999", "12345", "al", "bo",
        "nobody", "ninechars", "eightsig", "!", "A", "\t", "\r", "\u00e9", "\u0000", "end;", "any;", ";;"};

    private final Random random;
    private final QuarrelKeys x = new QuarrelKeys();
    private final PlainKeys y = new PlainKeys();

    private RandomRunsTest(long seed) {
        random = new Random(seed);
    }

    public static void main(String[] args) {
        int runs = args.length > 0 ? Integer.parseInt(args[0]) : 1500;
        long from = args.length > 1 ? Long.parseLong(args[1]) : 1;
        for (long seed = from; seed < from + runs; seed++) {
            new RandomRunsTest(seed).run(seed);
        }
        Check.end("RandomRunsTest");
    }

    private void run(long seed) {
        int calls = 40 + random.nextInt(160);
        for (int i = 0; i < calls; i++) {
            String at = "run " + seed + ", call " + i + ": ";
            one(at);
            Check.due(at + "status()", x.status(), y.status());
            Check.due(at + "top()", x.top(), y.top());
            Check.due(at + "bottom()", x.bottom(), y.bottom());
        }
    }

    private int pick(int bound) {
        return random.nextInt(bound);
    }

    /** Mostly 0 to bound - 1, at times just outside, at times far away. */
    private int near(int bound) {
        int die = pick(40);
        if (die == 0) {
            return -1;
        }
        if (die == 1) {
            return bound;
        }
        if (die == 2) {
            return random.nextInt();
        }
        if (die == 3) {
            return random.nextBoolean() ? Integer.MAX_VALUE : Integer.MIN_VALUE;
        }
        return bound <= 0 ? 0 : pick(bound);
    }

    private int person() {
        return near(Math.max(1, y.many(0)));
    }

    private int stairNumber() {
        return near(Math.max(1, y.many(1)));
    }

    private void texts(String at, String text, boolean isQuarter) {
        byte[] bytes = Check.bytes(text);
        for (int i = 0; i < bytes.length; i += 20) {
            int[] five = new int[5];
            for (int j = 0; j < 20; j++) {
                five[j / 4] = five[j / 4] << 8 | (i + j < bytes.length ? bytes[i + j] & 255 : 32);
            }
            Check.due(at + "feed", x.feed(five[0], five[1], five[2], five[3], five[4]),
                    y.feed(five[0], five[1], five[2], five[3], five[4]));
        }
        int n = pick(30) == 0 ? near(bytes.length) : bytes.length;
        if (isQuarter) {
            Check.due(at + "quarter(" + n + ") of \"" + text + "\"", x.quarter(n), y.quarter(n));
        } else {
            Check.due(at + "decades(" + n + ") of \"" + text + "\"", x.decades(n), y.decades(n));
        }
        for (int what = -1; what < 3; what++) {
            Check.due(at + "fault(" + what + ") of \"" + text + "\"", x.fault(what), y.fault(what));
        }
    }

    private String gap() {
        int die = pick(12);
        return die == 0 ? "\n" : die == 1 ? "  \n " : " ";
    }

    private String stop() {
        return pick(6) == 0 ? " ;" : pick(6) == 0 ? ";\n" : ";";
    }

    private String quarterText() {
        StringBuilder b = new StringBuilder();
        int people = pick(8);
        if (pick(2) == 0) {
            b.append("odds").append(gap()).append(pick(17)).append(stop());
        }
        if (pick(2) == 0) {
            b.append("cool").append(gap()).append(pick(pick(2) == 0 ? 31 : 10)).append(stop());
        }
        for (int p = 0; p < people; p++) {
            b.append("person").append(gap()).append(NAMES[p]);
            if (pick(2) == 0) {
                b.append(gap()).append("temper").append(gap()).append(pick(10));
            }
            b.append(stop());
        }
        boolean[] joined = new boolean[49];
        int stairs = pick(11);
        for (int s = 0; s < stairs && people > 1; s++) {
            int a = pick(people);
            int c = pick(people);
            if (a != c && !joined[a * 7 + c] && !joined[c * 7 + a] || pick(60) == 0) {
                joined[a * 7 + c] = true;
                b.append("stair").append(gap()).append(NAMES[a]).append(gap()).append(NAMES[c]);
                if (pick(2) == 0) {
                    b.append(gap()).append("grudge").append(gap()).append(pick(10));
                }
                b.append(stop());
            }
        }
        int likes = people == 0 ? 0 : pick(14);
        for (int i = 0; i < likes; i++) {
            b.append("like ").append(NAMES[pick(people)]).append(gap()).append(NAMES[pick(people)]);
            b.append(pick(5) == 0 ? "" : gap()).append(pick(10)).append(stop());
        }
        int swaps = people < 2 ? 0 : pick(5);
        for (int i = 0; i < swaps; i++) {
            int a = pick(people);
            int c = (a + 1 + pick(people - 1)) % people;
            b.append("swap").append(gap()).append(NAMES[a]).append(gap()).append(NAMES[c]).append(stop());
        }
        return b.length() > 880 ? b.substring(0, 880) : b.toString();
    }

    private String steps(int depth) {
        StringBuilder b = new StringBuilder();
        int many = depth == 0 ? pick(11) : pick(5);
        int people = Math.max(1, y.many(0));
        int stairs = Math.max(1, y.many(1));
        for (int i = 0; i < many; i++) {
            switch (pick(depth < 4 ? 12 : 8)) {
                case 0 -> b.append("quarrel ").append(pick(stairs));
                case 1 -> b.append("make ").append(pick(stairs));
                case 2 -> b.append("night ").append(1 + pick(pick(3) == 0 ? 40 : 3));
                case 3 -> b.append("calm ").append(NAMES[pick(people)]).append(' ').append(pick(10));
                case 4, 5, 6 -> b.append("any");
                case 7 -> b.append(pick(6) == 0 ? "stop" : "any");
                case 8 -> b.append("loop ").append(1 + pick(pick(3) == 0 ? 99 : 6)).append(stop())
                        .append(steps(depth + 1)).append("end");
                default -> b.append("when ").append(test(people, stairs)).append(stop())
                        .append(steps(depth + 1)).append("end");
            }
            b.append(stop());
        }
        return b.toString();
    }

    private String test(int people, int stairs) {
        String compares = pick(4) == 0 ? " < " : pick(2) == 0 ? ">" : "= ";
        return switch (pick(4)) {
            case 0 -> "home " + NAMES[pick(people)];
            case 1 -> "lives " + NAMES[pick(people)] + gap() + NAMES[pick(people)];
            case 2 -> "grudge " + pick(stairs) + compares + pick(10);
            default -> "temper " + NAMES[pick(people)] + compares + pick(10);
        };
    }

    /** A text with something put in, taken out or cut off. */
    private String spoiled(String text) {
        StringBuilder b = new StringBuilder(text);
        int many = 1 + pick(2);
        for (int i = 0; i < many; i++) {
            int place = pick(b.length() + 1);
            switch (pick(4)) {
                case 0 -> b.insert(place, " " + TOKENS[pick(TOKENS.length)] + " ");
                case 1 -> b.insert(place, TOKENS[pick(TOKENS.length)]);
                case 2 -> b.delete(place, Math.min(b.length(), place + 1 + pick(6)));
                default -> b.setLength(pick(10) == 0 ? place : b.length());
            }
        }
        return b.length() > 880 ? b.substring(0, 880) : b.toString();
    }

    private void one(String at) {
        int die = pick(100);
        if (die < 4) {
            String text = quarterText();
            texts(at, pick(3) == 0 ? spoiled(text) : text, true);
        } else if (die < 12) {
            String text = steps(0);
            text = text.length() > 300 && pick(3) > 0 ? "loop 40; any; quarrel 0; end;" : text;
            texts(at, pick(4) == 0 ? spoiled(text) : text, false);
        } else if (die < 24) {
            trays(at);
        } else if (die < 55) {
            deeds(at);
        } else if (die < 70) {
            sights(at);
        } else if (die < 85) {
            rows(at);
        } else {
            choices(at);
        }
    }

    private void trays(String at) {
        int t = near(4);
        int i = near(20);
        switch (pick(5)) {
            case 0 -> {
                int sort = near(4);
                int many = near(pick(3) == 0 ? 61 : 16);
                Check.due(at + "tray", x.tray(t, sort, many), y.tray(t, sort, many));
            }
            case 1, 2 -> {
                long v = pick(3) == 0 ? random.nextLong() : near(7);
                Check.due(at + "write", x.write(t, i, v), y.write(t, i, v));
            }
            case 3 -> {
                int to = near(4);
                int j = near(20);
                int many = near(10);
                Check.due(at + "pour", x.pour(t, i, to, j, many), y.pour(t, i, to, j, many));
            }
            default -> Check.due(at + "copyLives", x.copyLives(t), y.copyLives(t));
        }
        for (int tray = 0; tray < 4; tray++) {
            int place = near(20);
            Check.due(at + "read", x.read(tray, place), y.read(tray, place));
        }
    }

    private void deeds(String at) {
        int p = person();
        int o = person();
        int s = stairNumber();
        int v = near(10);
        switch (pick(14)) {
            case 0, 1, 2 -> Check.due(at + "quarrel", x.quarrel(s), y.quarrel(s));
            case 3, 4 -> Check.due(at + "makeUp", x.makeUp(s), y.makeUp(s));
            case 5 -> {
                int nights = pick(2) == 0 ? near(100) : 1;
                Check.due(at + "night", x.night(nights), y.night(nights));
            }
            case 6 -> Check.due(at + "calm", x.calm(p, v), y.calm(p, v));
            case 7 -> Check.due(at + "tell", x.tell(p, o, v), y.tell(p, o, v));
            case 8 -> Check.due(at + "swap", x.swap(p, o), y.swap(p, o));
            case 9 -> Check.due(at + "come", x.come(), y.come());
            case 10 -> Check.due(at + "build", x.build(p, o), y.build(p, o));
            case 11 -> {
                int what = near(5);
                int much = near(31);
                Check.due(at + "rule", x.rule(what, much), y.rule(what, much));
            }
            case 12 -> Check.due(at + "mark", x.mark(), y.mark());
            default -> Check.due(at + "back", x.back(), y.back());
        }
    }

    private void sights(String at) {
        int p = person();
        int o = person();
        int k = near(8);
        for (int what = -1; what < 11; what++) {
            Check.due(at + "many(" + what + ")", x.many(what), y.many(what));
        }
        for (int what = -1; what < 7; what++) {
            int s = stairNumber();
            Check.due(at + "person(" + p + ", " + what + ")", x.person(p, what), y.person(p, what));
            Check.due(at + "stair(" + s + ", " + what + ")", x.stair(s, what), y.stair(s, what));
        }
        Check.due(at + "likes", x.likes(p, o), y.likes(p, o));
        Check.due(at + "ring", x.ring(p), y.ring(p));
        Check.due(at + "ringAt", x.ringAt(p, k), y.ringAt(p, k));
        Check.due(at + "rings", x.rings(), y.rings());
        Check.due(at + "undo", x.undo(), y.undo());
    }

    /** Writes what the ROWS are asked for: where all shall live, or twos. */
    private int aim(String at, boolean twos) {
        int t = pick(4);
        int people = Math.max(1, y.many(0));
        Check.due(at + "tray", x.tray(t, 3, 12), y.tray(t, 3, 12));
        Integer[] houses = new Integer[people];
        for (int p = 0; p < people; p++) {
            houses[p] = p;
        }
        java.util.Collections.shuffle(java.util.Arrays.asList(houses), random);
        for (int i = 0; i < 12; i++) {
            long v = twos || i >= people ? pick(people) : houses[i];
            v = pick(60) == 0 ? near(8) : v;
            x.write(t, i, v);
            y.write(t, i, v);
        }
        return pick(20) == 0 ? near(4) : t;
    }

    private void rows(String at) {
        int k = near(10);
        switch (pick(4)) {
            case 0 -> {
                Check.due(at + "homeward", x.homeward(), y.homeward());
                Check.due(at + "homewardAt", x.homewardAt(k), y.homewardAt(k));
                Check.due(at + "ways", x.ways(), y.ways());
            }
            case 1 -> {
                int t = aim(at, false);
                Check.due(at + "toward", x.toward(t), y.toward(t));
                Check.due(at + "toward status", x.status(), y.status());
                Check.due(at + "towardAt", x.towardAt(t, k), y.towardAt(t, k));
            }
            default -> {
                int t = aim(at, true);
                int n = pick(3) == 0 ? near(7) : pick(3);
                int length = y.many(1) > 6 ? near(5) : near(6);
                int place = near(6);
                Check.due(at + "fits", x.fits(t, n, length), y.fits(t, n, length));
                Check.due(at + "fits status", x.status(), y.status());
                Check.due(at + "firstAt", x.firstAt(t, n, length, place), y.firstAt(t, n, length, place));
                Check.due(at + "firstAt status", x.status(), y.status());
                Check.due(at + "ask", x.ask(t, n, length), y.ask(t, n, length));
            }
        }
    }

    private void choices(String at) {
        int p = person();
        int o = person();
        int turns = near(5);
        switch (pick(9)) {
            case 0 -> Check.due(at + "trade", x.trade(p), y.trade(p));
            case 1 -> Check.due(at + "best", x.best(), y.best());
            case 2 -> Check.due(at + "bestOf", x.bestOf(p), y.bestOf(p));
            case 3 -> {
                Check.due(at + "envy", x.envy(), y.envy());
                Check.due(at + "vote", x.vote(p, o), y.vote(p, o));
                Check.due(at + "vote status", x.status(), y.status());
                Check.due(at + "winner", x.winner(), y.winner());
            }
            case 4 -> {
                Check.due(at + "game", x.game(p, o, turns), y.game(p, o, turns));
                Check.due(at + "game status", x.status(), y.status());
                Check.due(at + "moveOf", x.moveOf(p, o, turns), y.moveOf(p, o, turns));
            }
            case 5 -> {
                int k = y.many(1) > 6 ? near(4) : near(6);
                Check.due(at + "drift", x.drift(p, o, k), y.drift(p, o, k));
            }
            case 6, 7 -> {
                int seed = near(10000);
                Check.due(at + "live", x.live(seed), y.live(seed));
                Check.due(at + "live status", x.status(), y.status());
                for (int what = -1; what < 6; what++) {
                    Check.due(at + "lived(" + what + ")", x.lived(what), y.lived(what));
                }
            }
            default -> {
                int seed = pick(4) == 0 ? 9999 - pick(20) : near(10000);
                int many = near(22);
                Check.due(at + "mean", x.mean(seed, many), y.mean(seed, many));
            }
        }
    }
}
