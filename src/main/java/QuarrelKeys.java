/**
 * A quarter in which two who quarrel swap keys and live in each other's houses till it is made up.
 * The promises are those of DOC.md; the words in capitals there are the words of the comments here.
 */
public final class QuarrelKeys {
    public static final int NONE = -1;

    private static final int MOST_PEOPLE = 7;
    private static final int MOST_STAIRS = 10;
    private static final int MOST_ODDS = 16;
    private static final int MOST_COOL = 30;
    private static final int MOST_TEMPER = 9;
    private static final int MOST_GRUDGE = 9;
    private static final int MOST_LIKING = 9;
    private static final int MOST_NIGHT = 9999;
    private static final int MOST_NIGHTS = 99;
    private static final int FIRST_ODDS = 8;
    private static final int FIRST_COOL = 5;
    private static final int FIRST_TEMPER = 3;
    private static final int FIRST_LIKING = 5;

    private static final int TRAYS = 4;
    private static final int SORTS = 4;
    private static final int MOST_NUMBERS = 60;
    private static final int MARKS = 3;
    private static final int LONGEST_QUARTER = 900;
    private static final int LONGEST_DECADES = 300;
    private static final int BYTES_OF_FEED = 20;

    private static final int MOST_TWOS = 20;
    private static final int LONGEST_ROW = 5;
    private static final int MOST_TURNS = 4;
    private static final int MOST_SEED = 9999;
    private static final int MOST_SEEDS = 20;

    private static final int OK = 0;
    private static final int NO_TRAY = 1;
    private static final int NO_SUCH = 2;
    private static final int MISSING = 3;
    private static final int NO_PLACE = 4;
    private static final int BAD_NUMBER = 5;
    private static final int BELOW_NOTHING = 6;
    private static final int TOO_MANY = 7;
    private static final int THERE_IS_NONE = 8;
    private static final int CANNOT_BE = 9;
    private static final int FAULTY = 10;
    private static final int UNLIKE_SORTS = 11;

    private static final int FAULT_SIGN = 1;
    private static final int FAULT_STANDING = 2;
    private static final int FAULT_NAME = 3;
    private static final int FAULT_NUMBER = 4;
    private static final int FAULT_AGAIN = 5;
    private static final int FAULT_FULL = 6;
    private static final int FAULT_DEPTH = 7;

    private static final int MOST_LETTERS = 8;
    /** The WORDS that are no NAMES, a byte for each letter; the numbers below are their order. */
    private static final long[] WORDS = {
        0x6f646473L, // odds
        0x636f6f6cL, // cool
        0x706572736f6eL, // person
        0x74656d706572L, // temper
        0x7374616972L, // stair
        0x677275646765L, // grudge
        0x6c696b65L, // like
        0x73776170L, // swap
        0x7175617272656cL, // quarrel
        0x6d616b65L, // make
        0x6e69676874L, // night
        0x63616c6dL, // calm
        0x616e79L, // any
        0x7768656eL, // when
        0x686f6d65L, // home
        0x6c69766573L, // lives
        0x6c6f6f70L, // loop
        0x656e64L, // end
        0x73746f70L, // stop
    };
    private static final int ODDS = 0;
    private static final int COOL = 1;
    private static final int PERSON = 2;
    private static final int TEMPER = 3;
    private static final int STAIR = 4;
    private static final int GRUDGE = 5;
    private static final int LIKE = 6;
    private static final int SWAP = 7;
    private static final int QUARREL = 8;
    private static final int MAKE = 9;
    private static final int NIGHT = 10;
    private static final int CALM = 11;
    private static final int ANY = 12;
    private static final int WHEN = 13;
    private static final int HOME = 14;
    private static final int LIVES = 15;
    private static final int LOOP = 16;
    private static final int END = 17;
    private static final int STOP = 18;

    private final Tray[] trays = new Tray[TRAYS];
    private final Tape tape = new Tape();
    private final QuarterReader quarterReader = new QuarterReader();
    private final DecadesReader decadesReader = new DecadesReader();
    private final Quarter quarter = new Quarter();
    private final Quarter spareQuarter = new Quarter();
    private final Decades decades = new Decades();
    private final Decades spareDecades = new Decades();
    private final Quarter[] markedQuarters = new Quarter[MARKS];
    private final Decades[] markedDecades = new Decades[MARKS];
    private final Life life = new Life();
    private final Life dream = new Life();
    private final Paths paths = new Paths();
    private final Fitting fitting = new Fitting();
    private final Bargain bargain = new Bargain();
    private final Fraction fraction = new Fraction();
    private int marks;
    private int status;
    private int toldFault = NONE;
    private int toldPlace = NONE;

    public QuarrelKeys() {
        for (int i = 0; i < TRAYS; i++) {
            trays[i] = new Tray();
        }
        for (int i = 0; i < MARKS; i++) {
            markedQuarters[i] = new Quarter();
            markedDecades[i] = new Decades();
        }
    }

    public int status() {
        return status;
    }

    public long top() {
        return fraction.top;
    }

    public long bottom() {
        return fraction.bottom;
    }

    // ---- TRAYS

    public boolean tray(int tray, int sort, int many) {
        if (!hasTray(tray) || sort < 0 || sort >= SORTS) {
            return agree(NO_TRAY);
        }
        if (many > MOST_NUMBERS) {
            return agree(BAD_NUMBER);
        }
        if (many < 0) {
            return agree(BELOW_NOTHING);
        }
        trays[tray].layOut(sort, many);
        return agree(OK);
    }

    public boolean write(int tray, int place, long v) {
        if (agree(statusOfPlace(tray, place))) {
            trays[tray].put(place, v);
        }
        return status == OK;
    }

    public long read(int tray, int place) {
        return agree(statusOfPlace(tray, place)) ? trays[tray].numbers[place] : NONE;
    }

    public boolean pour(int tray, int i, int to, int j, int many) {
        if (agree(statusOfPour(tray, i, to, j, many))) {
            System.arraycopy(trays[tray].numbers, i, trays[to].numbers, j, many);
        }
        return status == OK;
    }

    // ---- texts

    public int feed(int a, int b, int c, int d, int e) {
        if (tape.length + BYTES_OF_FEED > LONGEST_QUARTER) {
            return NONE;
        }
        tape.addFour(a);
        tape.addFour(b);
        tape.addFour(c);
        tape.addFour(d);
        tape.addFour(e);
        return tape.length;
    }

    public int quarter(int n) {
        if (n < 0 || n > tape.length) {
            return answer(BAD_NUMBER, NONE);
        }
        tape.open(n);
        boolean taken = quarterReader.readText(tape, spareQuarter);
        closeText(taken);
        if (!taken) {
            return answer(FAULTY, NONE);
        }
        quarter.takeOver(spareQuarter);
        decades.clear();
        return answer(OK, quarter.people);
    }

    public int decades(int n) {
        if (n < 0 || n > tape.length || n > LONGEST_DECADES) {
            return answer(BAD_NUMBER, NONE);
        }
        tape.open(n);
        boolean taken = decadesReader.readText(tape, quarter, spareDecades);
        closeText(taken);
        if (!taken) {
            return answer(FAULTY, NONE);
        }
        decades.takeOver(spareDecades);
        return answer(OK, decades.steps);
    }

    public int fault(int what) {
        if (what == 0) {
            return toldFault;
        }
        return what == 1 ? toldPlace : NONE;
    }

    public int many(int what) {
        status = OK;
        switch (what) {
            case 0:
                return quarter.people;
            case 1:
                return quarter.stairs;
            case 2:
                return quarter.odds;
            case 3:
                return quarter.cool;
            case 4:
                return quarter.night;
            case 5:
                return quarter.quarrels;
            case 6:
                return quarter.makings;
            case 7:
                return quarter.homeSet();
            case 8:
                return quarter.allTempers();
            case 9:
                return quarter.allGrudges();
            default:
                return answer(BAD_NUMBER, NONE);
        }
    }

    public int person(int person, int what) {
        if (!quarter.hasPerson(person)) {
            return answer(NO_SUCH, NONE);
        }
        status = OK;
        switch (what) {
            case 0:
                return quarter.temper[person];
            case 1:
                return quarter.lives[person];
            case 2:
                return quarter.dweller(person);
            case 3:
                return quarter.liking(person, quarter.lives[person]);
            case 4:
                return quarter.stairSet(person);
            default:
                return answer(BAD_NUMBER, NONE);
        }
    }

    public int stair(int stair, int what) {
        if (!quarter.hasStair(stair)) {
            return answer(NO_SUCH, NONE);
        }
        status = OK;
        switch (what) {
            case 0:
                return quarter.one[stair];
            case 1:
                return quarter.other[stair];
            case 2:
                return quarter.grudge[stair];
            case 3:
                return quarter.heat(stair);
            case 4:
                return quarter.mayQuarrel(stair) ? 1 : 0;
            case 5:
                return quarter.mayMakeUp(stair) ? 1 : 0;
            default:
                return answer(BAD_NUMBER, NONE);
        }
    }

    public int likes(int person, int house) {
        if (!agree(statusOfTwo(person, house))) {
            return NONE;
        }
        return quarter.liking(person, house);
    }

    public int copyLives(int tray) {
        if (!agree(statusOfTray(tray, quarter.people))) {
            return NONE;
        }
        for (int p = 0; p < quarter.people; p++) {
            trays[tray].put(p, quarter.lives[p]);
        }
        return quarter.people;
    }

    // ---- what is done

    public int quarrel(int stair) {
        if (!quarter.hasStair(stair)) {
            return answer(NO_SUCH, NONE);
        }
        if (!quarter.tryQuarrel(stair)) {
            return answer(CANNOT_BE, NONE);
        }
        return answer(OK, quarter.grudge[stair]);
    }

    public int makeUp(int stair) {
        if (!quarter.hasStair(stair)) {
            return answer(NO_SUCH, NONE);
        }
        if (!quarter.tryMakeUp(stair)) {
            return answer(CANNOT_BE, NONE);
        }
        return answer(OK, quarter.grudge[stair]);
    }

    public int night(int nights) {
        if (nights < 1 || nights > MOST_NIGHTS) {
            return answer(BAD_NUMBER, NONE);
        }
        if (!quarter.tryNights(nights)) {
            return answer(TOO_MANY, NONE);
        }
        return answer(OK, quarter.allTempers());
    }

    public int calm(int person, int temper) {
        if (!quarter.hasPerson(person)) {
            return answer(NO_SUCH, NONE);
        }
        if (temper < 0 || temper > MOST_TEMPER) {
            return answer(BAD_NUMBER, NONE);
        }
        int before = quarter.temper[person];
        quarter.temper[person] = temper;
        return answer(OK, before);
    }

    public int tell(int person, int house, int much) {
        if (!agree(statusOfTwo(person, house))) {
            return NONE;
        }
        if (much < 0 || much > MOST_LIKING) {
            return answer(BAD_NUMBER, NONE);
        }
        int before = quarter.liking(person, house);
        quarter.setLiking(person, house, much);
        return before;
    }

    public int swap(int person, int other) {
        if (!agree(statusOfCouple(person, other))) {
            return NONE;
        }
        quarter.exchange(person, other);
        return Integer.bitCount(quarter.homeSet());
    }

    public int come() {
        if (quarter.people >= MOST_PEOPLE) {
            return answer(TOO_MANY, NONE);
        }
        return answer(OK, quarter.addPerson(0L));
    }

    public int build(int person, int other) {
        if (!agree(statusOfCouple(person, other))) {
            return NONE;
        }
        if (quarter.stairs >= MOST_STAIRS) {
            return answer(TOO_MANY, NONE);
        }
        if (quarter.hasStairBetween(person, other)) {
            return answer(CANNOT_BE, NONE);
        }
        return answer(OK, quarter.addStair(person, other));
    }

    public boolean rule(int what, int much) {
        if (what == 2 && much >= 0 && much <= MOST_ODDS) {
            quarter.odds = much;
            return agree(OK);
        }
        if (what == 3 && much >= 0 && much <= MOST_COOL) {
            quarter.cool = much;
            return agree(OK);
        }
        return agree(BAD_NUMBER);
    }

    // ---- rings

    public int ring(int person) {
        if (!quarter.hasPerson(person)) {
            return answer(NO_SUCH, NONE);
        }
        return answer(OK, quarter.ringLength(person));
    }

    public int ringAt(int person, int k) {
        if (!quarter.hasPerson(person)) {
            return answer(NO_SUCH, NONE);
        }
        if (k < 0 || k >= quarter.ringLength(person)) {
            return answer(THERE_IS_NONE, NONE);
        }
        int at = person;
        for (int i = 0; i < k; i++) {
            at = quarter.lives[at];
        }
        return answer(OK, at);
    }

    public int rings() {
        return answer(OK, quarter.countRings());
    }

    public int undo() {
        // a swap parts or joins rings by one, so each ring takes one swap fewer than it has people
        return answer(OK, quarter.people - quarter.countRings());
    }

    // ---- ROWS

    public int homeward() {
        return agree(statusOfHomeward()) ? paths.length : NONE;
    }

    public int homewardAt(int k) {
        return rowAt(statusOfHomeward(), k);
    }

    public int toward(int tray) {
        return agree(statusOfToward(tray)) ? paths.length : NONE;
    }

    public int towardAt(int tray, int k) {
        return rowAt(statusOfToward(tray), k);
    }

    public int ways() {
        return answer(OK, paths.countWays(quarter));
    }

    public int fits(int tray, int n, int k) {
        if (!agree(statusOfFits(tray, n, k))) {
            return NONE;
        }
        fitting.seek(quarter, k, false);
        return fitting.found;
    }

    public int firstAt(int tray, int n, int k, int place) {
        if (!agree(statusOfFits(tray, n, k))) {
            return NONE;
        }
        if (place < 0 || place >= k) {
            return answer(THERE_IS_NONE, NONE);
        }
        fitting.seek(quarter, k, true);
        return fitting.found == 0 ? answer(THERE_IS_NONE, NONE) : fitting.first[place];
    }

    public int ask(int tray, int n, int k) {
        if (!agree(statusOfFits(tray, n, k))) {
            return NONE;
        }
        fitting.seek(quarter, k, false);
        int asked = fitting.bestParting(quarter.people);
        return asked == NONE ? answer(THERE_IS_NONE, NONE) : asked;
    }

    // ---- who would rather

    public int trade(int person) {
        if (!quarter.hasPerson(person)) {
            return answer(NO_SUCH, NONE);
        }
        bargain.tradeAll(quarter);
        return answer(OK, bargain.gets[person]);
    }

    public int best() {
        return answer(OK, bargain.giveBest(quarter));
    }

    public int bestOf(int person) {
        if (!quarter.hasPerson(person)) {
            return answer(NO_SUCH, NONE);
        }
        bargain.giveBest(quarter);
        return answer(OK, bargain.gets[person]);
    }

    public int envy() {
        return answer(OK, quarter.countEnvy());
    }

    public int vote(int house, int other) {
        return agree(statusOfCouple(house, other)) ? quarter.votes(house, other) : NONE;
    }

    public int winner() {
        int won = quarter.mostVoted();
        return won == NONE ? answer(THERE_IS_NONE, NONE) : answer(OK, won);
    }

    // ---- games, odds

    public int game(int person, int other, int turns) {
        if (!agree(statusOfGame(person, other, turns, 0))) {
            return NONE;
        }
        return playOut(quarter, person, other, turns, true);
    }

    public int moveOf(int person, int other, int turns) {
        if (!agree(statusOfGame(person, other, turns, 1))) {
            return NONE;
        }
        int move = NONE;
        int most = playOut(quarter, person, other, turns - 1, false);
        for (int s = quarter.stairs - 1; s >= 0; s--) {
            if (quarter.touches(s, person)) {
                quarter.exchangeOn(s);
                int value = playOut(quarter, person, other, turns - 1, false);
                quarter.exchangeOn(s);
                if (value >= most) {
                    most = value;
                    move = s;
                }
            }
        }
        return move == NONE ? answer(THERE_IS_NONE, NONE) : move;
    }

    public boolean drift(int person, int house, int k) {
        if (!agree(statusOfTwo(person, house))) {
            return false;
        }
        if (k < 0 || k > LONGEST_ROW) {
            return agree(BAD_NUMBER);
        }
        if (quarter.stairs == 0 && k > 0) {
            return agree(THERE_IS_NONE);
        }
        long all = 1;
        for (int i = 0; i < k; i++) {
            all *= quarter.stairs;
        }
        fraction.set(bargain.countDrift(quarter, person, house, k), all);
        return true;
    }

    // ---- DECADES

    public int live(int seed) {
        if (seed < 0 || seed > MOST_SEED) {
            return answer(BAD_NUMBER, NONE);
        }
        if (!decades.there) {
            return answer(THERE_IS_NONE, NONE);
        }
        life.run(quarter, decades, seed);
        return answer(OK, life.steps);
    }

    public int lived(int what) {
        if (what < 0 || what > 4) {
            return answer(BAD_NUMBER, NONE);
        }
        if (!life.begun) {
            return answer(THERE_IS_NONE, NONE);
        }
        status = OK;
        switch (what) {
            case 0:
                return life.missed;
            case 1:
                return life.nights;
            case 2:
                return life.quarrels;
            case 3:
                return life.makings;
            default:
                return life.stepLeft ? 1 : 0;
        }
    }

    public boolean mean(int seed, int many) {
        if (many < 1 || many > MOST_SEEDS || seed < 0 || seed > MOST_SEED - many + 1) {
            return agree(BAD_NUMBER);
        }
        if (!decades.there) {
            return agree(THERE_IS_NONE);
        }
        int home = 0;
        for (int i = 0; i < many; i++) {
            spareQuarter.takeOver(quarter);
            dream.run(spareQuarter, decades, seed + i);
            home += Integer.bitCount(spareQuarter.homeSet());
        }
        fraction.set(home, many);
        return agree(OK);
    }

    // ---- MARKS

    public int mark() {
        if (marks >= MARKS) {
            return answer(TOO_MANY, NONE);
        }
        markedQuarters[marks].takeOver(quarter);
        markedDecades[marks].takeOver(decades);
        marks++;
        return answer(OK, marks);
    }

    public int back() {
        if (marks <= 0) {
            return answer(THERE_IS_NONE, NONE);
        }
        marks--;
        quarter.takeOver(markedQuarters[marks]);
        decades.takeOver(markedDecades[marks]);
        return answer(OK, marks);
    }

    // ---- the STATUS of calls

    private int answer(int newStatus, int value) {
        status = newStatus;
        return value;
    }

    private boolean agree(int newStatus) {
        status = newStatus;
        return newStatus == OK;
    }

    private static boolean hasTray(int tray) {
        return tray >= 0 && tray < TRAYS;
    }

    /** The STATUS of a call that needs so many numbers of a TRAY. */
    private int statusOfTray(int tray, long needed) {
        if (!hasTray(tray)) {
            return NO_TRAY;
        }
        if (trays[tray].isMissing()) {
            return MISSING;
        }
        return needed > trays[tray].length ? NO_PLACE : OK;
    }

    private int statusOfPlace(int tray, int place) {
        int found = statusOfTray(tray, 0);
        if (found != OK) {
            return found;
        }
        return trays[tray].hasRow(place, 1) ? OK : NO_PLACE;
    }

    private int statusOfPour(int tray, int i, int to, int j, int many) {
        if (!hasTray(tray) || !hasTray(to)) {
            return NO_TRAY;
        }
        if (trays[tray].isMissing() || trays[to].isMissing()) {
            return MISSING;
        }
        if (trays[tray].sort != trays[to].sort) {
            return UNLIKE_SORTS;
        }
        if (many < 0) {
            return BELOW_NOTHING;
        }
        return trays[tray].hasRow(i, many) && trays[to].hasRow(j, many) ? OK : NO_PLACE;
    }

    private int statusOfTwo(int person, int house) {
        return quarter.hasPerson(person) && quarter.hasPerson(house) ? OK : NO_SUCH;
    }

    private int statusOfCouple(int person, int other) {
        int found = statusOfTwo(person, other);
        return found == OK && person == other ? BAD_NUMBER : found;
    }

    private int statusOfGame(int person, int other, int turns, int fewest) {
        int found = statusOfCouple(person, other);
        return found == OK && (turns < fewest || turns > MOST_TURNS) ? BAD_NUMBER : found;
    }

    private int statusOfHomeward() {
        paths.aimHome();
        return paths.find(quarter) ? OK : THERE_IS_NONE;
    }

    private int statusOfToward(int tray) {
        int found = statusOfTray(tray, quarter.people);
        if (found != OK) {
            return found;
        }
        if (!paths.aimAt(trays[tray], quarter.people)) {
            return BAD_NUMBER;
        }
        return paths.find(quarter) ? OK : THERE_IS_NONE;
    }

    private int statusOfFits(int tray, int n, int k) {
        int found = statusOfTray(tray, 2L * n);
        if (found != OK) {
            return found;
        }
        if (n < 0 || n > MOST_TWOS || k < 0 || k > LONGEST_ROW) {
            return BAD_NUMBER;
        }
        return fitting.want(trays[tray], n, quarter.people) ? OK : BAD_NUMBER;
    }

    private int rowAt(int found, int k) {
        if (!agree(found)) {
            return NONE;
        }
        return k < 0 || k >= paths.length ? answer(THERE_IS_NONE, NONE) : paths.row[k];
    }

    private void closeText(boolean taken) {
        tape.length = 0;
        toldFault = taken ? 0 : tape.fault;
        toldPlace = taken ? NONE : tape.faultPlace;
    }

    /** The outcome of a GAME by best play; the KEYS are back where they were when it returns. */
    private static int playOut(Quarter q, int person, int other, int turns, boolean firstMoves) {
        if (turns <= 0 || turns > MOST_TURNS) {
            return q.liking(person, q.lives[person]) - q.liking(other, q.lives[other]);
        }
        int mover = firstMoves ? person : other;
        int reached = playOut(q, person, other, turns - 1, !firstMoves);
        for (int s = 0; s < q.stairs; s++) {
            if (q.touches(s, mover)) {
                q.exchangeOn(s);
                int value = playOut(q, person, other, turns - 1, !firstMoves);
                q.exchangeOn(s);
                reached = firstMoves ? Math.max(reached, value) : Math.min(reached, value);
            }
        }
        return reached;
    }

    /** The FRACTION told latest. */
    private static final class Fraction {
        long top = 0;
        long bottom = 1;

        void set(long newTop, long newBottom) {
            long a = newTop;
            long b = newBottom;
            // a hundred is more rounds than Euclid needs for any two longs
            for (int i = 0; i < 100 && b != 0; i++) {
                long rest = a % b;
                a = b;
                b = rest;
            }
            if (a != 0) {
                top = newTop / a;
                bottom = newBottom / a;
            }
        }
    }

    /** A TRAY. */
    private static final class Tray {
        final long[] numbers = new long[MOST_NUMBERS];
        int sort = NONE;
        int length;

        boolean isMissing() {
            return sort == NONE;
        }

        void layOut(int newSort, int many) {
            sort = newSort;
            length = many;
            for (int i = 0; i < MOST_NUMBERS; i++) {
                numbers[i] = 0;
            }
        }

        boolean hasRow(int place, int many) {
            return place >= 0 && many >= 0 && many <= length - place;
        }

        void put(int place, long v) {
            if (hasRow(place, 1)) {
                numbers[place] = cut(v);
            }
        }

        long cut(long v) {
            switch (sort) {
                case 0:
                    return (byte) v;
                case 1:
                    return (short) v;
                case 2:
                    return (int) v;
                default:
                    return v;
            }
        }
    }

    /** The QUARTER with all that became of it. */
    private static final class Quarter {
        final long[] names = new long[MOST_PEOPLE];
        final int[] temper = new int[MOST_PEOPLE];
        final int[] lives = new int[MOST_PEOPLE];
        final int[] likings = new int[MOST_PEOPLE * MOST_PEOPLE];
        final int[] one = new int[MOST_STAIRS];
        final int[] other = new int[MOST_STAIRS];
        final int[] grudge = new int[MOST_STAIRS];
        int people;
        int stairs;
        int odds = FIRST_ODDS;
        int cool = FIRST_COOL;
        int night;
        int quarrels;
        int makings;

        void clear() {
            people = 0;
            stairs = 0;
            odds = FIRST_ODDS;
            cool = FIRST_COOL;
            night = 0;
            quarrels = 0;
            makings = 0;
        }

        void takeOver(Quarter from) {
            System.arraycopy(from.names, 0, names, 0, MOST_PEOPLE);
            System.arraycopy(from.temper, 0, temper, 0, MOST_PEOPLE);
            System.arraycopy(from.lives, 0, lives, 0, MOST_PEOPLE);
            System.arraycopy(from.likings, 0, likings, 0, MOST_PEOPLE * MOST_PEOPLE);
            System.arraycopy(from.one, 0, one, 0, MOST_STAIRS);
            System.arraycopy(from.other, 0, other, 0, MOST_STAIRS);
            System.arraycopy(from.grudge, 0, grudge, 0, MOST_STAIRS);
            people = from.people;
            stairs = from.stairs;
            odds = from.odds;
            cool = from.cool;
            night = from.night;
            quarrels = from.quarrels;
            makings = from.makings;
        }

        boolean hasPerson(int person) {
            return person >= 0 && person < people;
        }

        boolean hasStair(int stair) {
            return stair >= 0 && stair < stairs;
        }

        int findName(long name) {
            for (int p = 0; p < people; p++) {
                if (names[p] == name) {
                    return p;
                }
            }
            return NONE;
        }

        int addPerson(long name) {
            if (people >= MOST_PEOPLE) {
                return NONE;
            }
            int person = people;
            people++;
            names[person] = name;
            temper[person] = FIRST_TEMPER;
            lives[person] = person;
            for (int p = 0; p < people; p++) {
                setLiking(p, person, FIRST_LIKING);
                setLiking(person, p, FIRST_LIKING);
            }
            return person;
        }

        int addStair(int a, int b) {
            if (stairs >= MOST_STAIRS) {
                return NONE;
            }
            int stair = stairs;
            stairs++;
            one[stair] = a;
            other[stair] = b;
            grudge[stair] = 0;
            return stair;
        }

        boolean hasStairBetween(int a, int b) {
            for (int s = 0; s < stairs; s++) {
                if (touches(s, a) && touches(s, b)) {
                    return true;
                }
            }
            return false;
        }

        boolean touches(int stair, int person) {
            return one[stair] == person || other[stair] == person;
        }

        int stairSet(int person) {
            int set = 0;
            for (int s = 0; s < stairs; s++) {
                if (touches(s, person)) {
                    set |= 1 << s;
                }
            }
            return set;
        }

        int liking(int person, int house) {
            return likings[person * MOST_PEOPLE + house];
        }

        void setLiking(int person, int house, int much) {
            likings[person * MOST_PEOPLE + house] = much;
        }

        int dweller(int house) {
            for (int p = 0; p < people; p++) {
                if (lives[p] == house) {
                    return p;
                }
            }
            return NONE;
        }

        int homeSet() {
            int set = 0;
            for (int p = 0; p < people; p++) {
                if (lives[p] == p) {
                    set |= 1 << p;
                }
            }
            return set;
        }

        int allTempers() {
            int all = 0;
            for (int p = 0; p < people; p++) {
                all += temper[p];
            }
            return all;
        }

        int allGrudges() {
            int all = 0;
            for (int s = 0; s < stairs; s++) {
                all += grudge[s];
            }
            return all;
        }

        void exchange(int a, int b) {
            int kept = lives[a];
            lives[a] = lives[b];
            lives[b] = kept;
        }

        void exchangeOn(int stair) {
            exchange(one[stair], other[stair]);
        }

        int heat(int stair) {
            return temper[one[stair]] + temper[other[stair]] + 2 * grudge[stair];
        }

        boolean mayQuarrel(int stair) {
            return heat(stair) > cool && grudge[stair] < MOST_GRUDGE;
        }

        boolean mayMakeUp(int stair) {
            int a = one[stair];
            int b = other[stair];
            return grudge[stair] > 0 && liking(a, lives[b]) >= liking(a, lives[a])
                    && liking(b, lives[a]) >= liking(b, lives[b]);
        }

        boolean tryQuarrel(int stair) {
            if (!hasStair(stair) || !mayQuarrel(stair)) {
                return false;
            }
            exchangeOn(stair);
            grudge[stair]++;
            quarrels++;
            return true;
        }

        boolean tryMakeUp(int stair) {
            if (!hasStair(stair) || !mayMakeUp(stair)) {
                return false;
            }
            exchangeOn(stair);
            grudge[stair]--;
            makings++;
            return true;
        }

        /** False if his TEMPER is that already. */
        boolean tryCalm(int person, int newTemper) {
            if (!hasPerson(person) || temper[person] == newTemper) {
                return false;
            }
            temper[person] = newTemper;
            return true;
        }

        boolean tryNights(int nights) {
            if (night + nights > MOST_NIGHT) {
                return false;
            }
            night += nights;
            for (int p = 0; p < people; p++) {
                // nobody moves by night, so all nights push a TEMPER the same way
                if (liking(p, lives[p]) < liking(p, p)) {
                    temper[p] = Math.min(MOST_TEMPER, temper[p] + nights);
                } else {
                    temper[p] = Math.max(0, temper[p] - nights);
                }
            }
            return true;
        }

        int ringLength(int person) {
            int length = 1;
            for (int at = lives[person]; at != person && length < people; at = lives[at]) {
                length++;
            }
            return length;
        }

        int countRings() {
            int seen = 0;
            int rings = 0;
            for (int p = 0; p < people; p++) {
                if ((seen >> p & 1) == 0) {
                    rings++;
                    int at = p;
                    for (int i = 0; i < people; i++) {
                        seen |= 1 << at;
                        at = lives[at];
                    }
                }
            }
            return rings;
        }

        int countEnvy() {
            int couples = 0;
            for (int p = 0; p < people; p++) {
                for (int o = 0; o < people; o++) {
                    if (liking(p, lives[o]) > liking(p, lives[p])) {
                        couples++;
                    }
                }
            }
            return couples;
        }

        int votes(int house, int against) {
            int votes = 0;
            for (int p = 0; p < people; p++) {
                if (liking(p, house) > liking(p, against)) {
                    votes++;
                }
            }
            return votes;
        }

        int mostVoted() {
            for (int h = 0; h < people; h++) {
                if (beatsAll(h)) {
                    return h;
                }
            }
            return NONE;
        }

        boolean beatsAll(int house) {
            for (int h = 0; h < people; h++) {
                if (h != house && votes(house, h) <= votes(h, house)) {
                    return false;
                }
            }
            return true;
        }
    }

    /** The tape, and the TOKENS of the text that is its beginning. */
    private static final class Tape {
        static final int AT_END = 0;
        static final int WORD = 1;
        static final int NUMBER = 2;
        static final int SIGN = 3;
        static final int NO_TOKEN = 4;
        static final int MOST_DIGITS = 4;

        final byte[] bytes = new byte[LONGEST_QUARTER];
        int length;
        int end;
        int next;
        int start;
        int sort;
        int number;
        int word;
        int sign;
        int letters;
        long name;
        int who;
        int fault;
        int faultPlace;

        void addFour(int four) {
            for (int shift = 24; shift >= 0; shift -= 8) {
                if (length < LONGEST_QUARTER) {
                    bytes[length] = (byte) (four >> shift);
                    length++;
                }
            }
        }

        void open(int newEnd) {
            end = Math.min(newEnd, LONGEST_QUARTER);
            next = 0;
            start = 0;
            fault = 0;
            faultPlace = NONE;
        }

        /** False always, so that a reader can leave by it. */
        boolean fail(int kind) {
            fault = kind;
            faultPlace = start;
            return false;
        }

        /** Goes on to the next TOKEN (the text's end counts as one); false if none begins so. */
        boolean take() {
            while (next < end && (bytes[next] == 10 || bytes[next] == 32)) {
                next++;
            }
            start = next;
            word = NONE;
            sign = NONE;
            if (start >= end) {
                sort = AT_END;
                return true;
            }
            byte first = bytes[start];
            if (first >= 'a' && first <= 'z') {
                readWord();
            } else if (first >= '0' && first <= '9') {
                readNumber();
            } else {
                readSign(first);
            }
            return sort != NO_TOKEN || fail(FAULT_SIGN);
        }

        void readWord() {
            sort = WORD;
            name = 0;
            while (next < end && bytes[next] >= 'a' && bytes[next] <= 'z') {
                name = name << 8 | bytes[next];
                next++;
            }
            letters = next - start;
            for (int w = 0; w < WORDS.length; w++) {
                if (letters <= MOST_LETTERS && WORDS[w] == name) {
                    word = w;
                }
            }
        }

        void readNumber() {
            sort = NUMBER;
            number = 0;
            while (next < end && bytes[next] >= '0' && bytes[next] <= '9') {
                number = next - start < MOST_DIGITS ? number * 10 + bytes[next] - '0' : number;
                next++;
            }
            if (next - start > MOST_DIGITS) {
                sort = NO_TOKEN;
            }
        }

        void readSign(int found) {
            sort = NO_TOKEN;
            if (found == ';' || found == '<' || found == '>' || found == '=') {
                sort = SIGN;
                sign = found;
                next++;
            }
        }

        boolean isName() {
            return sort == WORD && word == NONE && letters <= MOST_LETTERS;
        }

        boolean takeStop() {
            return take() && isStop();
        }

        /** Whether the TOKEN is the semicolon that must stand there. */
        boolean isStop() {
            return sign == ';' || fail(FAULT_STANDING);
        }

        boolean takeNumber(int least, int most) {
            if (!take()) {
                return false;
            }
            if (sort != NUMBER) {
                return fail(FAULT_STANDING);
            }
            return number >= least && number <= most || fail(FAULT_NUMBER);
        }

        boolean takeCompares() {
            if (!take()) {
                return false;
            }
            return sign == '<' || sign == '>' || sign == '=' || fail(FAULT_STANDING);
        }

        boolean takeName() {
            return take() && (isName() || fail(FAULT_STANDING));
        }

        boolean takePerson(Quarter q) {
            if (!take()) {
                return false;
            }
            if (!isName()) {
                return fail(FAULT_STANDING);
            }
            who = q.findName(name);
            return who != NONE || fail(FAULT_NAME);
        }
    }

    /** Reads a QUARTER from the tape. */
    private static final class QuarterReader {
        boolean oddsTold;
        boolean coolTold;

        boolean readText(Tape t, Quarter q) {
            q.clear();
            oddsTold = false;
            coolTold = false;
            for (int parts = 0; parts <= LONGEST_QUARTER; parts++) {
                if (!t.take()) {
                    return false;
                }
                if (t.sort == Tape.AT_END) {
                    return true;
                }
                if (!readPart(t, q)) {
                    return false;
                }
            }
            return false;
        }

        boolean readPart(Tape t, Quarter q) {
            switch (t.word) {
                case ODDS:
                    return readOdds(t, q);
                case COOL:
                    return readCool(t, q);
                case PERSON:
                    return readPerson(t, q);
                case STAIR:
                    return readStair(t, q);
                case LIKE:
                    return readLike(t, q);
                case SWAP:
                    return readSwap(t, q);
                default:
                    return t.fail(FAULT_STANDING);
            }
        }

        boolean readOdds(Tape t, Quarter q) {
            if (oddsTold) {
                return t.fail(FAULT_AGAIN);
            }
            oddsTold = true;
            if (!t.takeNumber(0, MOST_ODDS)) {
                return false;
            }
            q.odds = t.number;
            return t.takeStop();
        }

        boolean readCool(Tape t, Quarter q) {
            if (coolTold) {
                return t.fail(FAULT_AGAIN);
            }
            coolTold = true;
            if (!t.takeNumber(0, MOST_COOL)) {
                return false;
            }
            q.cool = t.number;
            return t.takeStop();
        }

        boolean readPerson(Tape t, Quarter q) {
            if (q.people >= MOST_PEOPLE) {
                return t.fail(FAULT_FULL);
            }
            if (!t.takeName()) {
                return false;
            }
            if (q.findName(t.name) != NONE) {
                return t.fail(FAULT_NAME);
            }
            int person = q.addPerson(t.name);
            if (!t.take()) {
                return false;
            }
            if (t.word != TEMPER || !q.hasPerson(person)) {
                return t.isStop();
            }
            if (!t.takeNumber(0, MOST_TEMPER)) {
                return false;
            }
            q.temper[person] = t.number;
            return t.takeStop();
        }

        boolean readStair(Tape t, Quarter q) {
            if (q.stairs >= MOST_STAIRS) {
                return t.fail(FAULT_FULL);
            }
            if (!t.takePerson(q)) {
                return false;
            }
            int one = t.who;
            if (!t.takePerson(q)) {
                return false;
            }
            if (t.who == one || q.hasStairBetween(one, t.who)) {
                return t.fail(FAULT_AGAIN);
            }
            int stair = q.addStair(one, t.who);
            if (!t.take()) {
                return false;
            }
            if (t.word != GRUDGE || !q.hasStair(stair)) {
                return t.isStop();
            }
            if (!t.takeNumber(0, MOST_GRUDGE)) {
                return false;
            }
            q.grudge[stair] = t.number;
            return t.takeStop();
        }

        boolean readLike(Tape t, Quarter q) {
            if (!t.takePerson(q)) {
                return false;
            }
            int person = t.who;
            if (!t.takePerson(q)) {
                return false;
            }
            int house = t.who;
            if (!t.takeNumber(0, MOST_LIKING)) {
                return false;
            }
            q.setLiking(person, house, t.number);
            return t.takeStop();
        }

        boolean readSwap(Tape t, Quarter q) {
            if (!t.takePerson(q)) {
                return false;
            }
            int person = t.who;
            if (!t.takePerson(q)) {
                return false;
            }
            if (t.who == person) {
                return t.fail(FAULT_AGAIN);
            }
            q.exchange(person, t.who);
            return t.takeStop();
        }
    }

    /** The DECADES: a line for each STEP and each end; a when is a line with its TEST's WORD. */
    private static final class Decades {
        static final int MOST_STEPS = 30;
        /** Each STEP may have an end of its own. */
        static final int MOST_LINES = 2 * MOST_STEPS;

        final int[] kind = new int[MOST_LINES];
        final int[] first = new int[MOST_LINES];
        final int[] second = new int[MOST_LINES];
        final int[] compares = new int[MOST_LINES];
        /** Of a when, a loop its end; of an end its when, loop. */
        final int[] mate = new int[MOST_LINES];
        boolean there;
        int steps;
        int lines;

        void clear() {
            there = false;
            steps = 0;
            lines = 0;
        }

        void takeOver(Decades from) {
            System.arraycopy(from.kind, 0, kind, 0, MOST_LINES);
            System.arraycopy(from.first, 0, first, 0, MOST_LINES);
            System.arraycopy(from.second, 0, second, 0, MOST_LINES);
            System.arraycopy(from.compares, 0, compares, 0, MOST_LINES);
            System.arraycopy(from.mate, 0, mate, 0, MOST_LINES);
            there = from.there;
            steps = from.steps;
            lines = from.lines;
        }

        void addLine(int newKind, int newFirst, int newSecond, int newCompares) {
            if (lines < MOST_LINES) {
                kind[lines] = newKind;
                first[lines] = newFirst;
                second[lines] = newSecond;
                compares[lines] = newCompares;
                mate[lines] = NONE;
                lines++;
            }
        }

        void addEnd(int opened) {
            if (opened >= 0 && opened < lines && lines < MOST_LINES) {
                mate[opened] = lines;
                addLine(END, 0, 0, 0);
                mate[lines - 1] = opened;
            }
        }
    }

    /** Reads DECADES from the tape. */
    private static final class DecadesReader {
        static final int DEEPEST = 3;
        static final int MOST_NIGHTS_OF_STEP = 40;
        static final int MOST_TIMES = 99;

        final int[] opened = new int[DEEPEST];
        int depth;

        boolean readText(Tape t, Quarter q, Decades d) {
            d.clear();
            d.there = true;
            depth = 0;
            for (int parts = 0; parts <= LONGEST_DECADES; parts++) {
                if (!t.take()) {
                    return false;
                }
                if (t.sort == Tape.AT_END) {
                    return depth == 0 || t.fail(FAULT_STANDING);
                }
                int step = t.word;
                boolean taken = begin(step, t, d)
                        && (step == WHEN ? readTest(t, q, d) : readRest(step, t, q, d)) && t.takeStop();
                if (!taken) {
                    return false;
                }
            }
            return false;
        }

        /** Whether a STEP, an end may stand there; a STEP is counted, and how deep it lies. */
        boolean begin(int step, Tape t, Decades d) {
            if (step == END) {
                return depth > 0 || t.fail(FAULT_STANDING);
            }
            boolean opens = step == WHEN || step == LOOP;
            if (!opens && step != STOP && (step < QUARREL || step > ANY)) {
                return t.fail(FAULT_STANDING);
            }
            if (d.steps >= Decades.MOST_STEPS) {
                return t.fail(FAULT_FULL);
            }
            if (opens && depth >= DEEPEST) {
                return t.fail(FAULT_DEPTH);
            }
            d.steps++;
            if (opens) {
                opened[depth] = d.lines;
                depth++;
            }
            return true;
        }

        /** What stands behind any WORD but when, ahead of the semicolon. */
        boolean readRest(int step, Tape t, Quarter q, Decades d) {
            switch (step) {
                case QUARREL:
                case MAKE:
                    return t.takeNumber(0, q.stairs - 1) && keep(d, step, t.number, 0);
                case NIGHT:
                    return t.takeNumber(1, MOST_NIGHTS_OF_STEP) && keep(d, step, t.number, 0);
                case LOOP:
                    return t.takeNumber(1, MOST_TIMES) && keep(d, step, t.number, 0);
                case CALM:
                    return t.takePerson(q) && t.takeNumber(0, MOST_TEMPER) && keep(d, step, t.who, t.number);
                case END:
                    return close(d);
                default:
                    return keep(d, step, 0, 0);
            }
        }

        boolean close(Decades d) {
            if (depth <= 0) {
                return false;
            }
            depth--;
            d.addEnd(opened[depth]);
            return true;
        }

        /** True always, so that a reader can go on behind it. */
        boolean keep(Decades d, int step, int first, int second) {
            d.addLine(step, first, second, 0);
            return true;
        }

        boolean readTest(Tape t, Quarter q, Decades d) {
            if (!t.take()) {
                return false;
            }
            switch (t.word) {
                case HOME:
                    return t.takePerson(q) && keep(d, HOME, t.who, 0);
                case LIVES:
                    return readLivesTest(t, q, d);
                case GRUDGE:
                    return t.takeNumber(0, q.stairs - 1) && readCompares(t, d, GRUDGE, t.number, MOST_GRUDGE);
                case TEMPER:
                    return t.takePerson(q) && readCompares(t, d, TEMPER, t.who, MOST_TEMPER);
                default:
                    return t.fail(FAULT_STANDING);
            }
        }

        boolean readLivesTest(Tape t, Quarter q, Decades d) {
            if (!t.takePerson(q)) {
                return false;
            }
            int person = t.who;
            return t.takePerson(q) && keep(d, LIVES, person, t.who);
        }

        boolean readCompares(Tape t, Decades d, int test, int first, int most) {
            if (!t.takeCompares()) {
                return false;
            }
            int compares = t.sign;
            if (!t.takeNumber(0, most)) {
                return false;
            }
            d.addLine(test, first, t.number, compares);
            return true;
        }
    }

    /** DECADES as they are LIVED, and what is told of it. */
    private static final class Life {
        static final int MOST_DONE = 300;
        /** Far above the lines that 300 STEPS and their ends can come to. */
        static final int MOST_MOVES = 1000000;

        final int[] timesLeft = new int[Decades.MOST_LINES];
        boolean begun;
        boolean stepLeft;
        int state;
        int steps;
        int missed;
        int nights;
        int quarrels;
        int makings;

        void run(Quarter q, Decades d, int seed) {
            nights = q.night;
            quarrels = q.quarrels;
            makings = q.makings;
            begun = true;
            stepLeft = false;
            state = seed;
            steps = 0;
            missed = 0;
            int at = 0;
            for (int moves = 0; moves < MOST_MOVES && at >= 0 && at < d.lines && !stepLeft; moves++) {
                if (d.kind[at] == END) {
                    at = behindEnd(d, at);
                } else if (steps >= MOST_DONE) {
                    stepLeft = true;
                } else {
                    steps++;
                    at = doStep(q, d, at);
                }
            }
            // the QUARTER counts from its own beginning, this from where it was then
            nights = q.night - nights;
            quarrels = q.quarrels - quarrels;
            makings = q.makings - makings;
        }

        int behindEnd(Decades d, int at) {
            int begin = d.mate[at];
            if (begin >= 0 && begin < d.lines && d.kind[begin] == LOOP && timesLeft[begin] > 0) {
                timesLeft[begin]--;
                return begin + 1;
            }
            return at + 1;
        }

        /** Does the STEP of a line; the line to go on with. */
        int doStep(Quarter q, Decades d, int at) {
            boolean done = true;
            int next = at + 1;
            switch (d.kind[at]) {
                case LOOP:
                    timesLeft[at] = d.first[at] - 1;
                    if (d.mate[at] == next) {
                        // a loop around nothing is left at once: its rounds do no STEP
                        next++;
                    }
                    break;
                case HOME:
                case LIVES:
                case GRUDGE:
                case TEMPER:
                    if (!holds(q, d, at)) {
                        next = d.mate[at] + 1;
                    }
                    break;
                case STOP:
                    next = d.lines;
                    break;
                case QUARREL:
                    done = q.tryQuarrel(d.first[at]);
                    break;
                case MAKE:
                    done = q.tryMakeUp(d.first[at]);
                    break;
                case NIGHT:
                    done = q.tryNights(d.first[at]);
                    break;
                case CALM:
                    done = q.tryCalm(d.first[at], d.second[at]);
                    break;
                default:
                    done = doAny(q);
            }
            missed += done ? 0 : 1;
            return next;
        }

        boolean doAny(Quarter q) {
            if (q.stairs == 0) {
                return false;
            }
            int stair = draw(q.stairs);
            return draw(MOST_ODDS) < q.odds ? q.tryQuarrel(stair) : q.tryMakeUp(stair);
        }

        int draw(int many) {
            state = (state * 2971 + 10949) % 65536;
            return many > 0 ? state / 8 % many : 0;
        }

        boolean holds(Quarter q, Decades d, int at) {
            int first = d.first[at];
            switch (d.kind[at]) {
                case HOME:
                    return q.hasPerson(first) && q.lives[first] == first;
                case LIVES:
                    return q.hasPerson(first) && q.lives[first] == d.second[at];
                case GRUDGE:
                    return q.hasStair(first) && stands(q.grudge[first], d.compares[at], d.second[at]);
                default:
                    return q.hasPerson(first) && stands(q.temper[first], d.compares[at], d.second[at]);
            }
        }

        boolean stands(int left, int compares, int right) {
            if (compares == '<') {
                return left < right;
            }
            return compares == '>' ? left > right : left == right;
        }
    }

    /**
     * Shortest ROWS. Houses are told by who is to live in them in the end, so that every aim is
     * "all home" and one table of distances serves as long as the STAIRS stay the same.
     */
    private static final class Paths {
        static final int ALL_ORDERS = 5040;
        /** Seven in a row of STAIRS need 21, no other STAIRS more. */
        static final int LONGEST = 24;
        static final int UNKNOWN = -1;
        static final int BITS = 3;

        final byte[] far = new byte[ALL_ORDERS];
        final int[] queue = new int[ALL_ORDERS];
        final int[] tableOne = new int[MOST_STAIRS];
        final int[] tableOther = new int[MOST_STAIRS];
        final int[] goal = new int[MOST_PEOPLE];
        final int[] row = new int[LONGEST];
        int tablePeople = NONE;
        int tableStairs;
        int length;

        void aimHome() {
            for (int p = 0; p < MOST_PEOPLE; p++) {
                goal[p] = p;
            }
        }

        boolean aimAt(Tray tray, int people) {
            int used = 0;
            for (int p = 0; p < people; p++) {
                long told = tray.numbers[p];
                int house = told >= 0 && told < people ? (int) told : NONE;
                if (house == NONE || (used >> house & 1) != 0) {
                    return false;
                }
                used |= 1 << house;
                goal[p] = house;
            }
            return true;
        }

        /** Puts the first of the shortest ROWS to the goal into row; false if there is none. */
        boolean find(Quarter q) {
            makeTable(q);
            length = 0;
            int order = orderOf(q);
            int left = far[rank(order, q.people)];
            if (left == UNKNOWN || left > LONGEST) {
                return false;
            }
            for (; left > 0; left--) {
                order = stepNearer(order, left);
            }
            return true;
        }

        int stepNearer(int order, int left) {
            for (int s = 0; s < tableStairs; s++) {
                int next = exchangeIn(order, tableOne[s], tableOther[s]);
                if (far[rank(next, tablePeople)] == left - 1) {
                    row[length] = s;
                    length++;
                    return next;
                }
            }
            return order;
        }

        /** Of each PERSON, three bits: who is to live where he lives now. */
        int orderOf(Quarter q) {
            int order = 0;
            for (int p = 0; p < q.people; p++) {
                for (int o = 0; o < q.people; o++) {
                    if (goal[o] == q.lives[p]) {
                        order |= o << BITS * p;
                    }
                }
            }
            return order;
        }

        static int exchangeIn(int order, int a, int b) {
            int unlike = (order >> BITS * a ^ order >> BITS * b) & 7;
            return order ^ unlike << BITS * a ^ unlike << BITS * b;
        }

        /** The place of an order among all orders of so many, from 0 on. */
        static int rank(int order, int people) {
            int used = 0;
            int rank = 0;
            for (int p = 0; p < people; p++) {
                int value = order >> BITS * p & 7;
                int smaller = Integer.bitCount(used & (1 << value) - 1);
                rank = rank * (people - p) + value - smaller;
                used |= 1 << value;
            }
            return rank >= 0 && rank < ALL_ORDERS ? rank : 0;
        }

        boolean isTableOf(Quarter q) {
            if (tablePeople != q.people || tableStairs != q.stairs) {
                return false;
            }
            for (int s = 0; s < tableStairs; s++) {
                if (tableOne[s] != q.one[s] || tableOther[s] != q.other[s]) {
                    return false;
                }
            }
            return true;
        }

        void makeTable(Quarter q) {
            if (isTableOf(q)) {
                return;
            }
            tablePeople = q.people;
            tableStairs = q.stairs;
            System.arraycopy(q.one, 0, tableOne, 0, MOST_STAIRS);
            System.arraycopy(q.other, 0, tableOther, 0, MOST_STAIRS);
            for (int i = 0; i < ALL_ORDERS; i++) {
                far[i] = UNKNOWN;
            }
            int home = 0;
            for (int p = 0; p < tablePeople; p++) {
                home |= p << BITS * p;
            }
            far[rank(home, tablePeople)] = 0;
            queue[0] = home;
            spread();
        }

        void spread() {
            int filled = 1;
            for (int at = 0; at < filled && at < ALL_ORDERS; at++) {
                int order = queue[at];
                int beyond = far[rank(order, tablePeople)] + 1;
                for (int s = 0; s < tableStairs; s++) {
                    int next = exchangeIn(order, tableOne[s], tableOther[s]);
                    int place = rank(next, tablePeople);
                    if (far[place] == UNKNOWN && filled < ALL_ORDERS) {
                        far[place] = (byte) beyond;
                        queue[filled] = next;
                        filled++;
                    }
                }
            }
        }

        /** Those whom STAIRS join can live in their HOUSES in any order. */
        int countWays(Quarter q) {
            int ways = 1;
            int seen = 0;
            for (int p = 0; p < q.people; p++) {
                if ((seen >> p & 1) == 0) {
                    int joined = joinedWith(q, p);
                    seen |= joined;
                    for (int f = 2; f <= Integer.bitCount(joined); f++) {
                        ways *= f;
                    }
                }
            }
            return ways;
        }

        int joinedWith(Quarter q, int person) {
            int joined = 1 << person;
            for (int round = 1; round < q.people; round++) {
                for (int s = 0; s < q.stairs; s++) {
                    int both = 1 << q.one[s] | 1 << q.other[s];
                    if ((joined & both) != 0) {
                        joined |= both;
                    }
                }
            }
            return joined;
        }
    }

    /** The ROWS that fit what a TRAY tells. */
    private static final class Fitting {
        final int[] wanted = new int[MOST_PEOPLE];
        /** Of each PERSON and each HOUSE: 1 if he is wanted elsewhere, else 0. */
        final int[] misfit = new int[MOST_PEOPLE * MOST_PEOPLE];
        /** Of each PERSON and each HOUSE: behind how many ROWS found he lives there. */
        final int[] tally = new int[MOST_PEOPLE * MOST_PEOPLE];
        final int[] row = new int[LONGEST_ROW];
        final int[] first = new int[LONGEST_ROW];
        boolean clash;
        boolean firstOnly;
        int rowLength;
        int found;

        /** Takes the first n twos of a TRAY; false if one of them can't be. */
        boolean want(Tray tray, int n, int people) {
            clash = false;
            for (int p = 0; p < MOST_PEOPLE; p++) {
                wanted[p] = NONE;
            }
            for (int i = 0; i < n; i++) {
                long person = tray.numbers[2 * i];
                long house = tray.numbers[2 * i + 1];
                if (person < 0 || person >= people || house < 0 || house >= people) {
                    return false;
                }
                int told = wanted[(int) person];
                clash = clash || told != NONE && told != house;
                wanted[(int) person] = (int) house;
            }
            return true;
        }

        void seek(Quarter q, int k, boolean onlyFirst) {
            found = 0;
            rowLength = k;
            firstOnly = onlyFirst;
            int wrong = 0;
            for (int p = 0; p < MOST_PEOPLE; p++) {
                for (int h = 0; h < MOST_PEOPLE; h++) {
                    misfit[p * MOST_PEOPLE + h] = wanted[p] == NONE || wanted[p] == h ? 0 : 1;
                    tally[p * MOST_PEOPLE + h] = 0;
                }
                wrong += q.hasPerson(p) ? misfit[p * MOST_PEOPLE + q.lives[p]] : 0;
            }
            if (clash) {
                return;
            }
            if (k > 0) {
                seekOn(this, q, k, wrong);
            } else if (wrong == 0) {
                found = 1;
                addToTally(q, 1);
            }
        }

        /** Tries all ROWS of so many STAIRS more; the KEYS are back where they were in the end. */
        private static void seekOn(Fitting f, Quarter q, int left, int wrong) {
            // a STAIR can bring two to where they are wanted, no more
            if (left < 1 || left > f.rowLength || wrong > 2 * left) {
                return;
            }
            if (left == 1) {
                f.seekLast(q, wrong);
                return;
            }
            for (int s = 0; s < q.stairs; s++) {
                int wrongThen = wrong + f.change(q, s);
                f.row[f.rowLength - left] = s;
                q.exchangeOn(s);
                seekOn(f, q, left - 1, wrongThen);
                q.exchangeOn(s);
                if (f.firstOnly && f.found > 0) {
                    return;
                }
            }
        }

        /** By how many more are wrong if the two of a STAIR swap KEYS. */
        int change(Quarter q, int stair) {
            int a = q.one[stair];
            int b = q.other[stair];
            int fromA = q.lives[a];
            int fromB = q.lives[b];
            a *= MOST_PEOPLE;
            b *= MOST_PEOPLE;
            return misfit[a + fromB] - misfit[a + fromA] + misfit[b + fromA] - misfit[b + fromB];
        }

        /** Tries the last STAIR of ROWS; most ROWS differ there alone, so no KEYS are swapped for it. */
        void seekLast(Quarter q, int wrong) {
            int before = found;
            for (int s = 0; s < q.stairs; s++) {
                if (wrong + change(q, s) == 0) {
                    if (found == 0) {
                        row[rowLength - 1] = s;
                        System.arraycopy(row, 0, first, 0, LONGEST_ROW);
                    }
                    found++;
                    moveTally(q, q.one[s], q.other[s]);
                    moveTally(q, q.other[s], q.one[s]);
                }
            }
            if (found > before) {
                addToTally(q, found - before);
            }
        }

        /** One more ROW has one live where another one does, and one ROW fewer where he does. */
        void moveTally(Quarter q, int person, int other) {
            tally[person * MOST_PEOPLE + q.lives[person]]--;
            tally[person * MOST_PEOPLE + q.lives[other]]++;
        }

        void addToTally(Quarter q, int rows) {
            for (int p = 0; p < q.people; p++) {
                tally[p * MOST_PEOPLE + q.lives[p]] += rows;
            }
        }

        int bestParting(int people) {
            int asked = NONE;
            int fewest = found;
            for (int p = 0; p < people; p++) {
                int most = 0;
                for (int h = 0; h < people; h++) {
                    most = Math.max(most, tally[p * MOST_PEOPLE + h]);
                }
                if (most < fewest) {
                    fewest = most;
                    asked = p;
                }
            }
            return asked;
        }
    }

    /** Who gets which HOUSE, by TRADE or so that it is BEST, and where KEYS drift. */
    private static final class Bargain {
        static final int SETS = 1 << MOST_PEOPLE;

        final int[] gets = new int[MOST_PEOPLE];
        final int[] points = new int[MOST_PEOPLE];
        /** By the set of HOUSES given away: the most LIKINGS of all who come behind. */
        final int[] worth = new int[SETS];
        final int[] holders = new int[MOST_PEOPLE];
        final int[] moved = new int[MOST_PEOPLE];

        void tradeAll(Quarter q) {
            int left = (1 << q.people) - 1;
            for (int round = 0; round < MOST_PEOPLE && left != 0; round++) {
                pointAll(q, left);
                int gone = 0;
                for (int p = 0; p < q.people; p++) {
                    if ((left >> p & 1) != 0 && isInRing(p)) {
                        gets[p] = points[p];
                        gone |= 1 << p;
                    }
                }
                left &= ~gone;
            }
        }

        void pointAll(Quarter q, int left) {
            for (int p = 0; p < q.people; p++) {
                int most = NONE;
                for (int h = 0; h < q.people; h++) {
                    if ((left >> h & 1) != 0 && q.liking(p, h) > most) {
                        most = q.liking(p, h);
                        points[p] = h;
                    }
                }
            }
        }

        boolean isInRing(int person) {
            int at = person;
            for (int i = 0; i < MOST_PEOPLE; i++) {
                at = points[at];
                if (at == person) {
                    return true;
                }
            }
            return false;
        }

        /** All LIKINGS together by the BEST way, which gets holds then. */
        int giveBest(Quarter q) {
            int all = (1 << q.people) - 1;
            worth[all] = 0;
            for (int given = all - 1; given >= 0; given--) {
                worth[given] = mostBehind(q, given);
            }
            int given = 0;
            for (int p = 0; p < q.people; p++) {
                gets[p] = firstHouse(q, p, given);
                given |= 1 << gets[p];
            }
            return worth[0];
        }

        int mostBehind(Quarter q, int given) {
            int person = Integer.bitCount(given);
            int most = 0;
            for (int h = 0; h < q.people; h++) {
                if ((given >> h & 1) == 0) {
                    most = Math.max(most, q.liking(person, h) + worth[given | 1 << h]);
                }
            }
            return most;
        }

        int firstHouse(Quarter q, int person, int given) {
            for (int h = 0; h < q.people; h++) {
                if ((given >> h & 1) == 0 && q.liking(person, h) + worth[given | 1 << h] == worth[given]) {
                    return h;
                }
            }
            return 0;
        }

        /** How many ROWS of k STAIRS there are behind which a PERSON lives in a HOUSE. */
        long countDrift(Quarter q, int person, int house, int k) {
            for (int p = 0; p < MOST_PEOPLE; p++) {
                holders[p] = q.hasPerson(p) && q.lives[p] == house ? 1 : 0;
            }
            for (int i = 0; i < k; i++) {
                driftOnce(q);
            }
            return holders[person];
        }

        /** One KEY alone has to be followed: it stays, or goes over the STAIR of its holder. */
        void driftOnce(Quarter q) {
            for (int p = 0; p < MOST_PEOPLE; p++) {
                moved[p] = holders[p] * q.stairs;
            }
            for (int s = 0; s < q.stairs; s++) {
                int a = q.one[s];
                int b = q.other[s];
                moved[a] += holders[b] - holders[a];
                moved[b] += holders[a] - holders[b];
            }
            System.arraycopy(moved, 0, holders, 0, MOST_PEOPLE);
        }
    }
}
