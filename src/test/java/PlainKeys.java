import java.util.ArrayDeque;
import java.util.ArrayList;
import java.util.Arrays;
import java.util.HashMap;
import java.util.LinkedHashMap;
import java.util.List;
import java.util.Map;

/**
 * The document once more, by the plainest means that can be thought of (all ROWS written out, all
 * ways tried, texts cut into TOKENS first, DECADES as a tree): what QuarrelKeys is held against.
 */
final class PlainKeys {
    private static final List<String> RESERVED = List.of("odds", "cool", "person", "temper", "stair", "grudge",
            "like", "swap", "quarrel", "make", "night", "calm", "any", "when", "home", "lives", "loop", "end", "stop");

    private static final class Fault extends RuntimeException {
        private static final long serialVersionUID = 1L;
        final int kind;
        final int place;

        Fault(int kind, int place) {
            this.kind = kind;
            this.place = place;
        }
    }

    private static final class Halt extends RuntimeException {
        private static final long serialVersionUID = 1L;
        final boolean left;

        Halt(boolean left) {
            this.left = left;
        }
    }

    private record Token(char sort, String text, int place) {
    }

    private record Step(String word, int a, String sign, int b, List<Step> inner) {
    }

    private static final class State {
        int odds = 8;
        int cool = 5;
        int night = 0;
        int quarrels = 0;
        int makings = 0;
        List<String> names = new ArrayList<>();
        List<Integer> temper = new ArrayList<>();
        List<Integer> lives = new ArrayList<>();
        Map<String, Integer> likes = new HashMap<>();
        List<int[]> stairs = new ArrayList<>();
        List<Step> decades = null;
        int steps = 0;

        State copy() {
            State c = new State();
            c.odds = odds;
            c.cool = cool;
            c.night = night;
            c.quarrels = quarrels;
            c.makings = makings;
            c.names.addAll(names);
            c.temper.addAll(temper);
            c.lives.addAll(lives);
            c.likes.putAll(likes);
            for (int[] s : stairs) {
                c.stairs.add(s.clone());
            }
            c.decades = decades;
            c.steps = steps;
            return c;
        }

        int n() {
            return names.size();
        }

        int like(int p, int h) {
            return likes.getOrDefault(p + ":" + h, 5);
        }

        void swap(int a, int b) {
            int kept = lives.get(a);
            lives.set(a, lives.get(b));
            lives.set(b, kept);
        }

        int heat(int s) {
            return temper.get(stairs.get(s)[0]) + temper.get(stairs.get(s)[1]) + 2 * stairs.get(s)[2];
        }

        boolean canQuarrel(int s) {
            return heat(s) > cool && stairs.get(s)[2] < 9;
        }

        boolean canMakeUp(int s) {
            int a = stairs.get(s)[0];
            int b = stairs.get(s)[1];
            return stairs.get(s)[2] > 0 && !(like(a, lives.get(b)) < like(a, lives.get(a)))
                    && !(like(b, lives.get(a)) < like(b, lives.get(b)));
        }

        boolean quarrel(int s) {
            if (!canQuarrel(s)) {
                return false;
            }
            swap(stairs.get(s)[0], stairs.get(s)[1]);
            stairs.get(s)[2]++;
            quarrels++;
            return true;
        }

        boolean makeUp(int s) {
            if (!canMakeUp(s)) {
                return false;
            }
            swap(stairs.get(s)[0], stairs.get(s)[1]);
            stairs.get(s)[2]--;
            makings++;
            return true;
        }

        void oneNight() {
            night++;
            for (int p = 0; p < n(); p++) {
                boolean worse = like(p, lives.get(p)) < like(p, p);
                temper.set(p, Math.max(0, Math.min(9, temper.get(p) + (worse ? 1 : -1))));
            }
        }

        int homes() {
            int set = 0;
            for (int p = 0; p < n(); p++) {
                set += lives.get(p) == p ? 1 << p : 0;
            }
            return set;
        }

        int add(String name) {
            names.add(name);
            temper.add(3);
            lives.add(n() - 1);
            return n() - 1;
        }

        int between(int a, int b) {
            for (int s = 0; s < stairs.size(); s++) {
                int[] at = stairs.get(s);
                if (at[0] == a && at[1] == b || at[0] == b && at[1] == a) {
                    return s;
                }
            }
            return -1;
        }
    }

    private int status = 0;
    private long top = 0;
    private long bottom = 1;
    private final long[][] trays = new long[4][];
    private final int[] sorts = new int[4];
    private byte[] tape = new byte[0];
    private int fault = -1;
    private int place = -1;
    private State q = new State();
    private final ArrayDeque<State> marks = new ArrayDeque<>();
    private int[] lived = null;

    int status() {
        return status;
    }

    long top() {
        return top;
    }

    long bottom() {
        return bottom;
    }

    private int no(int s) {
        status = s;
        return -1;
    }

    private boolean not(int s) {
        status = s;
        return false;
    }

    private int yes(int v) {
        status = 0;
        return v;
    }

    private boolean yes() {
        status = 0;
        return true;
    }

    private void fraction(long a, long b) {
        long g = java.math.BigInteger.valueOf(a).gcd(java.math.BigInteger.valueOf(b)).longValue();
        top = a / g;
        bottom = b / g;
    }

    private boolean noPerson(int p) {
        return p < 0 || p >= q.n();
    }

    private boolean noStair(int s) {
        return s < 0 || s >= q.stairs.size();
    }

    private static boolean noTray(int t) {
        return t < 0 || t > 3;
    }

    boolean tray(int t, int sort, int many) {
        if (noTray(t) || noTray(sort)) {
            return not(1);
        }
        if (many > 60) {
            return not(5);
        }
        if (many < 0) {
            return not(6);
        }
        trays[t] = new long[many];
        sorts[t] = sort;
        return yes();
    }

    private int placeStatus(int t, int i) {
        if (noTray(t)) {
            return 1;
        }
        if (trays[t] == null) {
            return 3;
        }
        return i < 0 || i >= trays[t].length ? 4 : 0;
    }

    private void put(int t, int i, long v) {
        int bits = 8 << sorts[t];
        trays[t][i] = v << 64 - bits >> 64 - bits;
    }

    boolean write(int t, int i, long v) {
        status = placeStatus(t, i);
        if (status == 0) {
            put(t, i, v);
        }
        return status == 0;
    }

    long read(int t, int i) {
        status = placeStatus(t, i);
        return status == 0 ? trays[t][i] : -1;
    }

    boolean pour(int t, int i, int to, int j, int many) {
        if (noTray(t) || noTray(to)) {
            return not(1);
        }
        if (trays[t] == null || trays[to] == null) {
            return not(3);
        }
        if (sorts[t] != sorts[to]) {
            return not(11);
        }
        if (many < 0) {
            return not(6);
        }
        if (i < 0 || j < 0 || (long) i + many > trays[t].length || (long) j + many > trays[to].length) {
            return not(4);
        }
        long[] were = Arrays.copyOfRange(trays[t], i, i + many);
        for (int k = 0; k < many; k++) {
            trays[to][j + k] = were[k];
        }
        return yes();
    }

    int feed(int a, int b, int c, int d, int e) {
        if (tape.length > 880) {
            return -1;
        }
        byte[] longer = Arrays.copyOf(tape, tape.length + 20);
        int at = tape.length;
        for (int v : new int[] {a, b, c, d, e}) {
            longer[at++] = (byte) (v >>> 24);
            longer[at++] = (byte) (v >>> 16);
            longer[at++] = (byte) (v >>> 8);
            longer[at++] = (byte) v;
        }
        tape = longer;
        return tape.length;
    }

    // ---- TOKENS

    private List<Token> tokens;
    private int at;
    private State draft;

    private static List<Token> cutUp(byte[] text, int n) {
        String s = new String(text, 0, n, java.nio.charset.StandardCharsets.ISO_8859_1);
        List<Token> all = new ArrayList<>();
        java.util.regex.Matcher m = java.util.regex.Pattern.compile("[ \\n]+|([a-z]+)|([0-9]+)|([;<>=])|([\\s\\S])").matcher(s);
        while (m.find()) {
            if (m.group(1) != null) {
                all.add(new Token('w', m.group(1), m.start()));
            } else if (m.group(2) != null) {
                all.add(new Token(m.group(2).length() > 4 ? '?' : 'n', m.group(2), m.start()));
            } else if (m.group(3) != null) {
                all.add(new Token('s', m.group(3), m.start()));
            } else if (m.group(4) != null) {
                all.add(new Token('?', m.group(4), m.start()));
            }
        }
        all.add(new Token('e', "", n));
        return all;
    }

    private Token look() {
        Token t = tokens.get(at);
        if (t.sort == '?') {
            throw new Fault(1, t.place);
        }
        return t;
    }

    private Token eat() {
        Token t = look();
        at++;
        return t;
    }

    private void stop() {
        Token t = eat();
        if (!t.text.equals(";")) {
            throw new Fault(2, t.place);
        }
    }

    private int number(int least, int most) {
        Token t = eat();
        if (t.sort != 'n') {
            throw new Fault(2, t.place);
        }
        int v = Integer.parseInt(t.text);
        if (v < least || v > most) {
            throw new Fault(4, t.place);
        }
        return v;
    }

    private Token name() {
        Token t = eat();
        if (t.sort != 'w' || t.text.length() > 8 || RESERVED.contains(t.text)) {
            throw new Fault(2, t.place);
        }
        return t;
    }

    private int known() {
        Token t = name();
        int p = draft.names.indexOf(t.text);
        if (p < 0) {
            throw new Fault(3, t.place);
        }
        return p;
    }

    private void readQuarter() {
        boolean odds = false;
        boolean cool = false;
        while (look().sort != 'e') {
            Token t = eat();
            switch (t.sort == 'w' ? t.text : "") {
                case "odds" -> {
                    if (odds) {
                        throw new Fault(5, t.place);
                    }
                    odds = true;
                    draft.odds = number(0, 16);
                }
                case "cool" -> {
                    if (cool) {
                        throw new Fault(5, t.place);
                    }
                    cool = true;
                    draft.cool = number(0, 30);
                }
                case "person" -> {
                    if (draft.n() == 7) {
                        throw new Fault(6, t.place);
                    }
                    Token name = name();
                    if (draft.names.contains(name.text)) {
                        throw new Fault(3, name.place);
                    }
                    draft.add(name.text);
                    if (look().text.equals("temper")) {
                        at++;
                        draft.temper.set(draft.n() - 1, number(0, 9));
                    }
                }
                case "stair" -> {
                    if (draft.stairs.size() == 10) {
                        throw new Fault(6, t.place);
                    }
                    int a = known();
                    int second = look().place;
                    int b = known();
                    if (a == b || draft.between(a, b) >= 0) {
                        throw new Fault(5, second);
                    }
                    int[] stair = {a, b, 0};
                    draft.stairs.add(stair);
                    if (look().text.equals("grudge")) {
                        at++;
                        stair[2] = number(0, 9);
                    }
                }
                case "like" -> {
                    String both = known() + ":" + known();
                    draft.likes.put(both, number(0, 9));
                }
                case "swap" -> {
                    int a = known();
                    int second = look().place;
                    int b = known();
                    if (a == b) {
                        throw new Fault(5, second);
                    }
                    draft.swap(a, b);
                }
                default -> throw new Fault(2, t.place);
            }
            stop();
        }
    }

    private List<Step> readSteps(int depth) {
        List<Step> all = new ArrayList<>();
        while (true) {
            Token t = look();
            if (t.sort == 'e') {
                if (depth > 0) {
                    throw new Fault(2, t.place);
                }
                return all;
            }
            if (t.text.equals("end")) {
                if (depth == 0) {
                    throw new Fault(2, t.place);
                }
                return all;
            }
            at++;
            all.add(readStep(t, depth));
        }
    }

    private Step readStep(Token t, int depth) {
        if (!List.of("quarrel", "make", "night", "calm", "any", "when", "loop", "stop").contains(t.text)) {
            throw new Fault(2, t.place);
        }
        if (draft.steps == 30) {
            throw new Fault(6, t.place);
        }
        draft.steps++;
        boolean opens = t.text.equals("when") || t.text.equals("loop");
        if (opens && depth == 3) {
            throw new Fault(7, t.place);
        }
        String word = t.text;
        int a = 0;
        int b = 0;
        String sign = "";
        switch (t.text) {
            case "quarrel", "make" -> a = number(0, draft.stairs.size() - 1);
            case "night" -> a = number(1, 40);
            case "loop" -> a = number(1, 99);
            case "calm" -> {
                a = known();
                b = number(0, 9);
            }
            case "when" -> {
                Token test = eat();
                word = test.text;
                switch (test.text) {
                    case "home" -> a = known();
                    case "lives" -> {
                        a = known();
                        b = known();
                    }
                    case "grudge", "temper" -> {
                        a = test.text.equals("grudge") ? number(0, draft.stairs.size() - 1) : known();
                        Token compares = eat();
                        if (!List.of("<", ">", "=").contains(compares.text)) {
                            throw new Fault(2, compares.place);
                        }
                        sign = compares.text;
                        b = number(0, 9);
                    }
                    default -> throw new Fault(2, test.place);
                }
            }
            default -> {
            }
        }
        stop();
        List<Step> inner = null;
        if (opens) {
            inner = readSteps(depth + 1);
            eat();
            stop();
        }
        return new Step(word, a, sign, b, inner);
    }

    private void open(int n) {
        tokens = cutUp(tape, n);
        at = 0;
        tape = new byte[0];
    }

    private int faulty(Fault f) {
        fault = f.kind;
        place = f.place;
        return no(10);
    }

    int quarter(int n) {
        if (n < 0 || n > tape.length) {
            return no(5);
        }
        open(n);
        draft = new State();
        try {
            readQuarter();
        } catch (Fault f) {
            return faulty(f);
        }
        fault = 0;
        place = -1;
        q = draft;
        return yes(q.n());
    }

    int decades(int n) {
        if (n < 0 || n > tape.length || n > 300) {
            return no(5);
        }
        open(n);
        draft = q.copy();
        draft.steps = 0;
        List<Step> all;
        try {
            all = readSteps(0);
        } catch (Fault f) {
            return faulty(f);
        }
        fault = 0;
        place = -1;
        q.decades = all;
        q.steps = draft.steps;
        return yes(q.steps);
    }

    int fault(int what) {
        return what == 0 ? fault : what == 1 ? place : -1;
    }

    int many(int what) {
        return switch (what) {
            case 0 -> yes(q.n());
            case 1 -> yes(q.stairs.size());
            case 2 -> yes(q.odds);
            case 3 -> yes(q.cool);
            case 4 -> yes(q.night);
            case 5 -> yes(q.quarrels);
            case 6 -> yes(q.makings);
            case 7 -> yes(q.homes());
            case 8 -> yes(q.temper.stream().mapToInt(Integer::intValue).sum());
            case 9 -> yes(q.stairs.stream().mapToInt(s -> s[2]).sum());
            default -> no(5);
        };
    }

    int person(int p, int what) {
        if (noPerson(p)) {
            return no(2);
        }
        return switch (what) {
            case 0 -> yes(q.temper.get(p));
            case 1 -> yes(q.lives.get(p));
            case 2 -> yes(q.lives.indexOf(p));
            case 3 -> yes(q.like(p, q.lives.get(p)));
            case 4 -> {
                int set = 0;
                for (int s = 0; s < q.stairs.size(); s++) {
                    set += q.stairs.get(s)[0] == p || q.stairs.get(s)[1] == p ? 1 << s : 0;
                }
                yield yes(set);
            }
            default -> no(5);
        };
    }

    int stair(int s, int what) {
        if (noStair(s)) {
            return no(2);
        }
        return switch (what) {
            case 0, 1, 2 -> yes(q.stairs.get(s)[what]);
            case 3 -> yes(q.heat(s));
            case 4 -> yes(q.canQuarrel(s) ? 1 : 0);
            case 5 -> yes(q.canMakeUp(s) ? 1 : 0);
            default -> no(5);
        };
    }

    int likes(int p, int h) {
        return noPerson(p) || noPerson(h) ? no(2) : yes(q.like(p, h));
    }

    int copyLives(int t) {
        int s = placeStatus(t, 0);
        if (s == 1 || s == 3) {
            return no(s);
        }
        if (trays[t].length < q.n()) {
            return no(4);
        }
        for (int p = 0; p < q.n(); p++) {
            put(t, p, q.lives.get(p));
        }
        return yes(q.n());
    }

    int quarrel(int s) {
        if (noStair(s)) {
            return no(2);
        }
        return q.quarrel(s) ? yes(q.stairs.get(s)[2]) : no(9);
    }

    int makeUp(int s) {
        if (noStair(s)) {
            return no(2);
        }
        return q.makeUp(s) ? yes(q.stairs.get(s)[2]) : no(9);
    }

    int night(int nights) {
        if (nights < 1 || nights > 99) {
            return no(5);
        }
        if (q.night + nights > 9999) {
            return no(7);
        }
        for (int i = 0; i < nights; i++) {
            q.oneNight();
        }
        return many(8);
    }

    int calm(int p, int temper) {
        if (noPerson(p)) {
            return no(2);
        }
        return temper < 0 || temper > 9 ? no(5) : yes(q.temper.set(p, temper));
    }

    int tell(int p, int h, int much) {
        if (noPerson(p) || noPerson(h)) {
            return no(2);
        }
        if (much < 0 || much > 9) {
            return no(5);
        }
        int was = q.like(p, h);
        q.likes.put(p + ":" + h, much);
        return yes(was);
    }

    int swap(int p, int o) {
        if (noPerson(p) || noPerson(o)) {
            return no(2);
        }
        if (p == o) {
            return no(5);
        }
        q.swap(p, o);
        return yes(Integer.bitCount(q.homes()));
    }

    int come() {
        return q.n() == 7 ? no(7) : yes(q.add("a name that no text can hold"));
    }

    int build(int p, int o) {
        if (noPerson(p) || noPerson(o)) {
            return no(2);
        }
        if (p == o) {
            return no(5);
        }
        if (q.stairs.size() == 10) {
            return no(7);
        }
        if (q.between(p, o) >= 0) {
            return no(9);
        }
        q.stairs.add(new int[] {p, o, 0});
        return yes(q.stairs.size() - 1);
    }

    boolean rule(int what, int much) {
        if (what != 2 && what != 3 || much < 0 || much > (what == 2 ? 16 : 30)) {
            return not(5);
        }
        if (what == 2) {
            q.odds = much;
        } else {
            q.cool = much;
        }
        return yes();
    }

    private List<Integer> ringOf(int p) {
        List<Integer> all = new ArrayList<>();
        for (int x = p; !all.contains(x); x = q.lives.get(x)) {
            all.add(x);
        }
        return all;
    }

    int ring(int p) {
        return noPerson(p) ? no(2) : yes(ringOf(p).size());
    }

    int ringAt(int p, int k) {
        if (noPerson(p)) {
            return no(2);
        }
        return k < 0 || k >= ringOf(p).size() ? no(8) : yes(ringOf(p).get(k));
    }

    int rings() {
        java.util.Set<Integer> least = new java.util.HashSet<>();
        for (int p = 0; p < q.n(); p++) {
            least.add(java.util.Collections.min(ringOf(p)));
        }
        return yes(least.size());
    }

    /** By swaps that each bring one home: no more than needed. */
    int undo() {
        List<Integer> lives = new ArrayList<>(q.lives);
        int swaps = 0;
        for (int p = 0; p < q.n(); p++) {
            if (lives.get(p) != p) {
                java.util.Collections.swap(lives, p, lives.indexOf(p));
                swaps++;
            }
        }
        return yes(swaps);
    }

    // ---- ROWS

    private static List<Integer> after(List<Integer> lives, int[] stair) {
        List<Integer> next = new ArrayList<>(lives);
        java.util.Collections.swap(next, stair[0], stair[1]);
        return next;
    }

    /** From where all live now, stairs in order: the first way that comes to a place is the first of the shortest. */
    private Map<List<Integer>, List<Integer>> reach() {
        Map<List<Integer>, List<Integer>> rows = new LinkedHashMap<>();
        ArrayDeque<List<Integer>> open = new ArrayDeque<>();
        rows.put(new ArrayList<>(q.lives), List.of());
        open.add(new ArrayList<>(q.lives));
        while (!open.isEmpty()) {
            List<Integer> lives = open.poll();
            for (int s = 0; s < q.stairs.size(); s++) {
                List<Integer> next = after(lives, q.stairs.get(s));
                if (!rows.containsKey(next)) {
                    List<Integer> row = new ArrayList<>(rows.get(lives));
                    row.add(s);
                    rows.put(next, row);
                    open.add(next);
                }
            }
        }
        return rows;
    }

    private int rowLength(List<Integer> goal) {
        List<Integer> row = reach().get(goal);
        return row == null ? no(8) : yes(row.size());
    }

    private int rowAt(List<Integer> goal, int k) {
        List<Integer> row = reach().get(goal);
        return row == null || k < 0 || k >= row.size() ? no(8) : yes(row.get(k));
    }

    private List<Integer> home() {
        List<Integer> home = new ArrayList<>();
        for (int p = 0; p < q.n(); p++) {
            home.add(p);
        }
        return home;
    }

    int homeward() {
        return rowLength(home());
    }

    int homewardAt(int k) {
        return rowAt(home(), k);
    }

    private List<Integer> goalOf(int t) {
        int s = placeStatus(t, 0);
        if (s == 1 || s == 3) {
            no(s);
            return null;
        }
        if (trays[t].length < q.n()) {
            no(4);
            return null;
        }
        List<Integer> goal = new ArrayList<>();
        for (int p = 0; p < q.n(); p++) {
            long h = trays[t][p];
            if (h < 0 || h >= q.n() || goal.contains((int) h)) {
                no(5);
                return null;
            }
            goal.add((int) h);
        }
        return goal;
    }

    int toward(int t) {
        List<Integer> goal = goalOf(t);
        return goal == null ? -1 : rowLength(goal);
    }

    int towardAt(int t, int k) {
        List<Integer> goal = goalOf(t);
        return goal == null ? -1 : rowAt(goal, k);
    }

    int ways() {
        return yes(reach().size());
    }

    /** All ROWS of k that fit, in order, each with where all live behind it; null if the call can't be. */
    private List<int[][]> fitting(int t, int n, int k) {
        int s = placeStatus(t, 0);
        if (s == 1 || s == 3) {
            no(s);
            return null;
        }
        if (2L * n > trays[t].length) {
            no(4);
            return null;
        }
        if (n < 0 || n > 20 || k < 0 || k > 5) {
            no(5);
            return null;
        }
        for (int i = 0; i < 2 * n; i++) {
            if (trays[t][i] < 0 || trays[t][i] >= q.n()) {
                no(5);
                return null;
            }
        }
        List<int[][]> all = new ArrayList<>();
        int many = 1;
        for (int i = 0; i < k; i++) {
            many *= q.stairs.size();
        }
        for (int code = 0; code < many; code++) {
            int[] row = new int[k];
            int rest = code;
            for (int i = k - 1; i >= 0; i--) {
                row[i] = rest % q.stairs.size();
                rest /= q.stairs.size();
            }
            int[] lives = q.lives.stream().mapToInt(Integer::intValue).toArray();
            for (int stair : row) {
                int a = q.stairs.get(stair)[0];
                int b = q.stairs.get(stair)[1];
                int kept = lives[a];
                lives[a] = lives[b];
                lives[b] = kept;
            }
            boolean fits = true;
            for (int i = 0; i < n; i++) {
                fits &= lives[(int) trays[t][2 * i]] == trays[t][2 * i + 1];
            }
            if (fits) {
                all.add(new int[][] {row, lives});
            }
        }
        return all;
    }

    int fits(int t, int n, int k) {
        List<int[][]> all = fitting(t, n, k);
        return all == null ? -1 : yes(all.size());
    }

    int firstAt(int t, int n, int k, int at) {
        List<int[][]> all = fitting(t, n, k);
        if (all == null) {
            return -1;
        }
        return all.isEmpty() || at < 0 || at >= k ? no(8) : yes(all.get(0)[0][at]);
    }

    int ask(int t, int n, int k) {
        List<int[][]> all = fitting(t, n, k);
        if (all == null) {
            return -1;
        }
        boolean alike = true;
        for (int[][] one : all) {
            alike &= Arrays.equals(one[1], all.get(0)[1]);
        }
        if (all.isEmpty() || alike) {
            return no(8);
        }
        int best = -1;
        int fewest = Integer.MAX_VALUE;
        for (int p = 0; p < q.n(); p++) {
            int[] in = new int[7];
            for (int[][] one : all) {
                in[one[1][p]]++;
            }
            int most = Arrays.stream(in).max().getAsInt();
            if (most < fewest) {
                fewest = most;
                best = p;
            }
        }
        return yes(best);
    }

    // ---- who would rather

    int trade(int person) {
        if (noPerson(person)) {
            return no(2);
        }
        List<Integer> left = home();
        while (true) {
            Map<Integer, Integer> points = new HashMap<>();
            for (int p : left) {
                int best = left.get(0);
                for (int h : left) {
                    if (q.like(p, h) > q.like(p, best)) {
                        best = h;
                    }
                }
                points.put(p, best);
            }
            // whoever is come to behind many steps is in a ring
            int x = person;
            List<Integer> way = new ArrayList<>();
            for (int i = 0; i < 20; i++) {
                way.add(x);
                x = points.get(x);
            }
            List<Integer> ring = new ArrayList<>();
            while (!ring.contains(x)) {
                ring.add(x);
                x = points.get(x);
            }
            if (ring.contains(person)) {
                return yes(points.get(person));
            }
            left.removeAll(ring);
        }
    }

    private int bestSum;
    private List<Integer> bestWay;

    private void tryWays(List<Integer> way) {
        if (way.size() == q.n()) {
            int sum = 0;
            for (int p = 0; p < q.n(); p++) {
                sum += q.like(p, way.get(p));
            }
            if (sum > bestSum) {
                bestSum = sum;
                bestWay = new ArrayList<>(way);
            }
            return;
        }
        for (int h = 0; h < q.n(); h++) {
            if (!way.contains(h)) {
                way.add(h);
                tryWays(way);
                way.remove(way.size() - 1);
            }
        }
    }

    int best() {
        bestSum = -1;
        tryWays(new ArrayList<>());
        return yes(bestSum);
    }

    int bestOf(int p) {
        if (noPerson(p)) {
            return no(2);
        }
        best();
        return yes(bestWay.get(p));
    }

    int envy() {
        int many = 0;
        for (int p = 0; p < q.n(); p++) {
            for (int o = 0; o < q.n(); o++) {
                many += p != o && q.like(p, q.lives.get(o)) > q.like(p, q.lives.get(p)) ? 1 : 0;
            }
        }
        return yes(many);
    }

    private int votes(int h, int o) {
        int many = 0;
        for (int p = 0; p < q.n(); p++) {
            many += q.like(p, h) > q.like(p, o) ? 1 : 0;
        }
        return many;
    }

    int vote(int h, int o) {
        if (noPerson(h) || noPerson(o)) {
            return no(2);
        }
        return h == o ? no(5) : yes(votes(h, o));
    }

    int winner() {
        for (int h = 0; h < q.n(); h++) {
            int beaten = 0;
            for (int o = 0; o < q.n(); o++) {
                beaten += o != h && votes(h, o) > votes(o, h) ? 1 : 0;
            }
            if (beaten == q.n() - 1) {
                return yes(h);
            }
        }
        return no(8);
    }

    // ---- games, odds

    private int value(List<Integer> lives, int first, int second, int turns, int mover) {
        if (turns == 0) {
            return q.like(first, lives.get(first)) - q.like(second, lives.get(second));
        }
        List<Integer> values = new ArrayList<>();
        values.add(value(lives, first, second, turns - 1, first + second - mover));
        for (int[] s : q.stairs) {
            if (s[0] == mover || s[1] == mover) {
                values.add(value(after(lives, s), first, second, turns - 1, first + second - mover));
            }
        }
        return mover == first ? java.util.Collections.max(values) : java.util.Collections.min(values);
    }

    int game(int p, int o, int turns) {
        if (noPerson(p) || noPerson(o)) {
            return no(2);
        }
        return p == o || turns < 0 || turns > 4 ? no(5) : yes(value(q.lives, p, o, turns, p));
    }

    int moveOf(int p, int o, int turns) {
        if (noPerson(p) || noPerson(o)) {
            return no(2);
        }
        if (p == o || turns < 1 || turns > 4) {
            return no(5);
        }
        int due = value(q.lives, p, o, turns, p);
        for (int s = 0; s < q.stairs.size(); s++) {
            int[] at = q.stairs.get(s);
            if ((at[0] == p || at[1] == p) && value(after(q.lives, at), p, o, turns - 1, o) == due) {
                return yes(s);
            }
        }
        return no(8);
    }

    boolean drift(int p, int h, int k) {
        if (noPerson(p) || noPerson(h)) {
            return not(2);
        }
        if (k < 0 || k > 5) {
            return not(5);
        }
        if (k > 0 && q.stairs.isEmpty()) {
            return not(8);
        }
        List<List<Integer>> all = new ArrayList<>();
        all.add(q.lives);
        for (int i = 0; i < k; i++) {
            List<List<Integer>> next = new ArrayList<>();
            for (List<Integer> lives : all) {
                for (int[] s : q.stairs) {
                    next.add(after(lives, s));
                }
            }
            all = next;
        }
        long there = all.stream().filter(lives -> lives.get(p) == h).count();
        fraction(there, all.size());
        return yes();
    }

    // ---- DECADES

    private State world;
    private long s;
    private int done;
    private int missed;

    private int draw(int n) {
        s = Math.floorMod(s * 2971 + 10949, 65536L);
        return (int) (s / 8 % n);
    }

    private boolean test(Step t) {
        if (t.word.equals("home")) {
            return world.lives.get(t.a) == t.a;
        }
        if (t.word.equals("lives")) {
            return world.lives.get(t.a) == t.b;
        }
        int v = t.word.equals("grudge") ? world.stairs.get(t.a)[2] : world.temper.get(t.a);
        return t.sign.equals("<") ? v < t.b : t.sign.equals(">") ? v > t.b : v == t.b;
    }

    private void runAll(List<Step> steps) {
        for (Step t : steps) {
            if (done == 300) {
                throw new Halt(true);
            }
            done++;
            boolean could = true;
            switch (t.word) {
                case "stop" -> throw new Halt(false);
                case "quarrel" -> could = world.quarrel(t.a);
                case "make" -> could = world.makeUp(t.a);
                case "night" -> {
                    could = world.night + t.a <= 9999;
                    for (int i = 0; could && i < t.a; i++) {
                        world.oneNight();
                    }
                }
                case "calm" -> could = world.temper.set(t.a, t.b) != t.b;
                case "any" -> {
                    if (world.stairs.isEmpty()) {
                        could = false;
                    } else {
                        int stair = draw(world.stairs.size());
                        could = draw(16) < world.odds ? world.quarrel(stair) : world.makeUp(stair);
                    }
                }
                case "loop" -> {
                    for (int i = 0; i < t.a; i++) {
                        runAll(t.inner);
                    }
                }
                default -> {
                    if (test(t)) {
                        runAll(t.inner);
                    }
                }
            }
            missed += could ? 0 : 1;
        }
    }

    private int[] run(State on, int seed) {
        world = on;
        s = seed;
        done = 0;
        missed = 0;
        int night = on.night;
        int quarrels = on.quarrels;
        int makings = on.makings;
        boolean left = false;
        try {
            runAll(on.decades);
        } catch (Halt h) {
            left = h.left;
        }
        return new int[] {missed, on.night - night, on.quarrels - quarrels, on.makings - makings, left ? 1 : 0};
    }

    int live(int seed) {
        if (seed < 0 || seed > 9999) {
            return no(5);
        }
        if (q.decades == null) {
            return no(8);
        }
        lived = run(q, seed);
        return yes(done);
    }

    int lived(int what) {
        if (what < 0 || what > 4) {
            return no(5);
        }
        return lived == null ? no(8) : yes(lived[what]);
    }

    boolean mean(int seed, int many) {
        if (many < 1 || many > 20 || seed < 0 || (long) seed + many - 1 > 9999) {
            return not(5);
        }
        if (q.decades == null) {
            return not(8);
        }
        int homes = 0;
        for (int i = 0; i < many; i++) {
            State copy = q.copy();
            run(copy, seed + i);
            homes += Integer.bitCount(copy.homes());
        }
        fraction(homes, many);
        return yes();
    }

    int mark() {
        if (marks.size() == 3) {
            return no(7);
        }
        marks.push(q.copy());
        return yes(marks.size());
    }

    int back() {
        if (marks.isEmpty()) {
            return no(8);
        }
        q = marks.pop();
        return yes(marks.size());
    }
}
