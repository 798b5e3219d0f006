import java.util.Arrays;

/** A bagatelle board: pins, cups, balls and events are told, and what comes of them is answered. */
public final class Bagatelle {
    public static final int NONE = -1, BAD = -2, NOT = -3, FULL = -4;

    private static final int ROWS = 8, COLUMNS = 9, CELLS = 72, TICKS = 24;
    private static final int MOST = 12;
    private static final int MOST_SLIPS = 8;
    private static final int MOST_ROOM = 9, FIRST_ROOM = 2;

    /** A place is a cell (row by row), or one of the nine cups, or the gutter below a column. */
    private static final int FIRST_CUP = 72, FIRST_GUTTER = 81;

    private static final int PIN_TEXT = 0, CUP_TEXT = 1, BALL_TEXT = 2, TEXTS = 3;
    private static final int[] TEXT_LIMITS = {47, 9, 35};

    private static final int LEFT = 0, RIGHT = 1, TURNS = 2, BELL = 3;
    private static final int TILT = 0, KNOCK = 1, EMPTY = 2;

    /** What can be tried in place of what is told, with the least and the greatest choice of each. */
    private static final int HARD = 0, TICK = 1, SORT = 2;
    private static final int[] LEAST_CHOICE = {1, 0, 0};
    private static final int[] GREATEST_CHOICE = {9, 23, 3};

    private static final int[] DIGEST_TICKS = {0, 6, 13, 23};

    private static final int FORCES = 9;
    private static final int NO_BALL = 12;
    private static final int SIXTEENTHS = 16;

    private static final int SHEETS = 4, MOST_ITEMS = 60;
    private static final int BYTES = 0, SHORTS = 1, FORMS = 3;
    private static final int NULL = 1, INDEX = 2, CAST = 3, STORE = 4, SIZE = 5;

    /** Written out, as the library's own constants are not among what the language rules list. */
    private static final int LEAST_INT = -2147483648;
    private static final long LEAST_LONG = -9223372036854775808L;

    private final Text[] texts = new Text[TEXTS];
    private final int[] faults = new int[TEXTS];
    private final Board board = new Board();
    private final Course told = new Course(board);
    private final Course tried = new Course(board);
    private final Slips sights = new Slips();
    private final Sheet[] sheets = new Sheet[SHEETS];
    private int finding = 0;

    /** What is kept of the latest dear searches holds until something else is told. */
    private boolean toldIsRun = false;
    private int searched = NONE, chosen = NONE, chosenScore = 0;
    private boolean sparesKnown = false;
    private int spareCount = NONE, firstSpare = NONE, secondSpare = NONE;
    private boolean bringersKnown = false;
    private final int[] bringers = new int[1 << MOST_SLIPS];

    private final long[] marks = new long[FORCES * TICKS * 2];

    public Bagatelle() {
        for (int text = 0; text < TEXTS; text++) {
            texts[text] = new Text(TEXT_LIMITS[text]);
            faults[text] = NONE;
        }
        for (int s = 0; s < SHEETS; s++) {
            sheets[s] = new Sheet();
        }
    }

    // ---- pins, cups, balls, events

    public int type(int text, int b) {
        if (!within(text, TEXTS) || !within(b, 256)) {
            return BAD;
        }
        if (!texts[text].append(b)) {
            return FULL;
        }
        parse(text);
        return texts[text].size;
    }

    public int wipe(int text) {
        if (!within(text, TEXTS)) {
            return BAD;
        }
        int had = texts[text].size;
        texts[text].size = 0;
        parse(text);
        return had;
    }

    public int undo(int text) {
        if (!within(text, TEXTS)) {
            return BAD;
        }
        if (texts[text].size == 0) {
            return NOT;
        }
        texts[text].size--;
        parse(text);
        return texts[text].size;
    }

    public int fault(int text) {
        return within(text, TEXTS) ? faults[text] : BAD;
    }

    public int pin(int pin, int what) {
        if (!within(pin, board.pinCount)) {
            return BAD;
        }
        switch (what) {
            case 0:
                return board.pinCells[pin] / COLUMNS;
            case 1:
                return board.pinCells[pin] % COLUMNS;
            case 2:
                return board.pinSorts[pin];
            default:
                return BAD;
        }
    }

    public int cup(int column, int what) {
        if (!within(column, COLUMNS)) {
            return BAD;
        }
        switch (what) {
            case 0:
                return board.worths[column];
            case 1:
                runTold();
                return told.inCup[column];
            case 2:
                runTold();
                return told.fellIn[column];
            default:
                return BAD;
        }
    }

    public int ball(int ball, int what) {
        if (!within(ball, board.ballCount)) {
            return BAD;
        }
        switch (what) {
            case 0:
                return board.ballTicks[ball];
            case 1:
                return board.ballHards[ball];
            default:
                return BAD;
        }
    }

    public int room(int v) {
        if (v < 1 || v > MOST_ROOM) {
            return BAD;
        }
        int was = board.room;
        board.room = v;
        forgetResults();
        return was;
    }

    public int event(int kind, int tick, int number) {
        if (!isEvent(kind, tick, number)) {
            return BAD;
        }
        if (board.events.isFull()) {
            return FULL;
        }
        board.events.append(kind, tick, number, 0);
        forgetResults();
        return board.events.size;
    }

    public int back() {
        if (board.events.size == 0) {
            return NOT;
        }
        board.events.size--;
        forgetResults();
        return board.events.size;
    }

    public int read(int s) {
        if (!within(s, SHEETS)) {
            return BAD;
        }
        if (sheets[s].isLost) {
            return found(NULL);
        }
        int[] items = sheets[s].items;
        int whole = sheets[s].size / 3;
        int added = 0;
        for (int i = 0; i < whole; i++) {
            if (event(items[3 * i], items[3 * i + 1], items[3 * i + 2]) < 0) {
                break;
            }
            added++;
        }
        return added;
    }

    // ---- ticks

    public int at(int tick, int ball, int what) {
        if (!within(tick, TICKS) || !within(ball, board.ballCount) || !within(what, 2)) {
            return BAD;
        }
        runTold();
        return what == 0 ? told.rowOf(tick, ball) : told.columnOf(tick, ball);
    }

    public int sees(int tick, int row, int column) {
        if (!within(tick, TICKS) || !within(row, ROWS) || !within(column, COLUMNS)) {
            return BAD;
        }
        runTold();
        return told.ballIn(tick, row * COLUMNS + column);
    }

    public int ends(int ball, int what) {
        if (!within(ball, board.ballCount) || !within(what, 3)) {
            return BAD;
        }
        runTold();
        switch (what) {
            case 0:
                return told.brings[ball];
            case 1:
                return told.endTicks[ball];
            default:
                return told.heldTimes[ball];
        }
    }

    public int sum(int what) {
        if (!within(what, 3)) {
            return BAD;
        }
        runTold();
        switch (what) {
            case 0:
                return told.score();
            case 1:
                return told.rings;
            default:
                return told.lost();
        }
    }

    public int late() {
        runTold();
        int bits = 0;
        for (int ball = 0; ball < board.ballCount; ball++) {
            if (told.endTicks[ball] == NONE) {
                bits |= 1 << ball;
            }
        }
        return bits;
    }

    public int best() {
        runTold();
        int best = NONE;
        int most = 0;
        for (int ball = 0; ball < board.ballCount; ball++) {
            if (told.brings[ball] > most) {
                most = told.brings[ball];
                best = ball;
            }
        }
        return best;
    }

    public int jam(int what) {
        if (!within(what, 2)) {
            return BAD;
        }
        runTold();
        int jammed = 0;
        for (int tick = 1; tick < TICKS; tick++) {
            if (told.heldIn[tick] > told.heldIn[jammed]) {
                jammed = tick;
            }
        }
        return what == 0 ? jammed : told.heldIn[jammed];
    }

    // ---- plans

    public int shoot(int ball, int what) {
        if (!within(ball, board.ballCount) || !within(what, 2)) {
            return BAD;
        }
        return bestChoice(HARD, ball, what);
    }

    public int time(int ball, int what) {
        if (!within(ball, board.ballCount) || !within(what, 2)) {
            return BAD;
        }
        return bestChoice(TICK, ball, what);
    }

    public int bend(int pin, int what) {
        if (!within(pin, board.pinCount) || !within(what, 2)) {
            return BAD;
        }
        return bestChoice(SORT, pin, what);
    }

    public int spare(int i) {
        if (i < NONE || i > 1) {
            return BAD;
        }
        if (!sparesKnown) {
            findSpares();
            sparesKnown = true;
        }
        if (i == NONE) {
            return spareCount;
        }
        return i == 0 ? firstSpare : secondSpare;
    }

    // ---- seen, chance, Sundays

    public int seen(int tick, int row, int column, int ball) {
        if (!within(tick, TICKS) || !within(row, ROWS) || !within(column, COLUMNS)
                || !within(ball, NO_BALL + 1)) {
            return BAD;
        }
        if (sights.isFull()) {
            return FULL;
        }
        sights.append(tick, row, column, ball);
        return sights.size;
    }

    public int forget() {
        int had = sights.size;
        sights.size = 0;
        return had;
    }

    public int never() {
        tried.takeTold();
        int all = tried.kept;
        int bits = 0;
        for (int e = 0; e < board.events.size; e++) {
            tried.kept = all & ~(1 << e);
            tried.run();
            if (tried.agrees(sights)) {
                bits |= 1 << e;
            }
        }
        return bits;
    }

    public int forces(int ball) {
        return within(ball, board.ballCount) ? agreeing(HARD, ball) : BAD;
    }

    public int kind(int pin) {
        return within(pin, board.pinCount) ? agreeing(SORT, pin) : BAD;
    }

    public int ask(int ball) {
        if (!within(ball, board.ballCount)) {
            return BAD;
        }
        int runs = markForces(ball);
        int bestTick = 0;
        int least = largestGroup(0, runs);
        for (int tick = 1; tick < TICKS; tick++) {
            int largest = largestGroup(tick, runs);
            if (largest < least) {
                least = largest;
                bestTick = tick;
            }
        }
        return bestTick;
    }

    public long chance(int c, int ball, int what) {
        if (!within(c, SIXTEENTHS + 1) || !within(ball, board.ballCount) || !within(what, 2)) {
            return LEAST_LONG - BAD; // the least long and 2 more
        }
        if (!bringersKnown) {
            findBringers();
            bringersKnown = true;
        }
        long above = 0;
        for (int kept = 0; kept < 1 << board.events.size; kept++) {
            if ((bringers[kept] >> ball & 1) != 0) {
                above += weight(kept, c);
            }
        }
        long below = 1L << 4 * board.events.size;
        // the number below is a power of two, so halving is all that lowest terms need
        for (int i = 0; i < 4 * MOST_SLIPS && below > 1 && above % 2 == 0; i++) {
            above /= 2;
            below /= 2;
        }
        return what == 0 ? above : below;
    }

    public int sundays(int seed, int n, int what) {
        if (n < 0 || n > MOST || !within(what, 2)) {
            return BAD;
        }
        tried.takeTold();
        tried.ballCount = n;
        int lot = seed;
        for (int ball = 0; ball < n; ball++) {
            lot = nextSeed(lot);
            tried.ticks[ball] = (lot >>> 16) % TICKS;
            lot = nextSeed(lot);
            tried.hards[ball] = (lot >>> 16) % FORCES + 1;
        }
        tried.run();
        return what == 0 ? tried.score() : tried.lost();
    }

    // ---- sheets

    public int sheet(int s, int form, int n) {
        if (!within(s, SHEETS) || !within(form, FORMS) || n > MOST_ITEMS) {
            return BAD;
        }
        if (n < 0) {
            return found(SIZE);
        }
        sheets[s].renew(form, n);
        return n;
    }

    public int lose(int s) {
        if (!within(s, SHEETS)) {
            return BAD;
        }
        if (sheets[s].isLost) {
            return found(NULL);
        }
        sheets[s].isLost = true;
        return sheets[s].size;
    }

    public int lay(int s, int form, int i, int v) {
        if (!within(s, SHEETS) || !within(form, FORMS)) {
            return BAD;
        }
        int wrong = sheets[s].findingFor(form, i);
        if (wrong != 0) {
            return found(wrong);
        }
        sheets[s].put(i, v);
        return 1;
    }

    public int get(int s, int form, int i) {
        if (!within(s, SHEETS) || !within(form, FORMS)) {
            return LEAST_INT;
        }
        int wrong = sheets[s].findingFor(form, i);
        if (wrong != 0) {
            finding = wrong;
            return LEAST_INT;
        }
        return sheets[s].items[i];
    }

    public int copy(int s, int i, int t, int j, int n) {
        if (!within(s, SHEETS) || !within(t, SHEETS)) {
            return BAD;
        }
        Sheet from = sheets[s];
        Sheet to = sheets[t];
        if (from.isLost || to.isLost) {
            return found(NULL);
        }
        if (from.form != to.form) {
            return found(STORE);
        }
        if (!from.hasItems(i, n) || !to.hasItems(j, n)) {
            return found(INDEX);
        }
        System.arraycopy(from.items, i, to.items, j, n);
        return 1;
    }

    public int write(int ball, int s) {
        if (!within(ball, board.ballCount) || !within(s, SHEETS)) {
            return BAD;
        }
        if (sheets[s].isLost) {
            return found(NULL);
        }
        runTold();
        int n = Math.min(sheets[s].size, TICKS);
        for (int tick = 0; tick < n; tick++) {
            sheets[s].put(tick, told.rowOf(tick, ball));
        }
        return n;
    }

    public int count(int what) {
        switch (what) {
            case 0:
                return board.pinCount;
            case 1:
                return board.ballCount;
            case 2:
                return texts[PIN_TEXT].size + texts[CUP_TEXT].size + texts[BALL_TEXT].size;
            case 3:
                return board.events.size;
            case 4:
                return sum(0);
            case 5:
                return board.room;
            case 6:
                runTold();
                return told.onBoard();
            case 7:
                return sights.size;
            case 8:
                return finding;
            default:
                return BAD;
        }
    }

    public long digest() {
        long h = 17;
        for (int what = 0; what < 8; what++) {
            h = 31 * h + count(what);
        }
        for (int text = 0; text < TEXTS; text++) {
            h = 31 * h + fault(text);
        }
        for (int cell = 0; cell < CELLS; cell++) {
            h = 31 * h + sees(9, cell / COLUMNS, cell % COLUMNS);
        }
        for (int column = 0; column < COLUMNS; column++) {
            for (int what = 0; what < 3; what++) {
                h = 31 * h + cup(column, what);
            }
        }
        for (int pin = 0; pin < board.pinCount; pin++) {
            h = withPin(h, pin);
        }
        for (int ball = 0; ball < board.ballCount; ball++) {
            h = withBall(h, ball);
        }
        for (int what = 0; what < 3; what++) {
            h = 31 * h + sum(what);
        }
        h = 31 * h + late();
        h = 31 * h + best();
        h = 31 * h + jam(0);
        h = 31 * h + jam(1);
        h = 31 * h + spare(NONE);
        h = 31 * h + spare(0);
        h = 31 * h + never();
        h = 31 * h + sundays(7, 9, 0);
        return 31 * h + sundays(7, 9, 1);
    }

    private long withPin(long before, int pin) {
        long h = before;
        for (int what = 0; what < 3; what++) {
            h = 31 * h + pin(pin, what);
        }
        h = 31 * h + bend(pin, 0);
        h = 31 * h + bend(pin, 1);
        return 31 * h + kind(pin);
    }

    private long withBall(long before, int ball) {
        long h = before;
        h = 31 * h + ball(ball, 0);
        h = 31 * h + ball(ball, 1);
        for (int i = 0; i < DIGEST_TICKS.length; i++) {
            h = 31 * h + at(DIGEST_TICKS[i], ball, 0);
            h = 31 * h + at(DIGEST_TICKS[i], ball, 1);
        }
        for (int what = 0; what < 3; what++) {
            h = 31 * h + ends(ball, what);
        }
        h = 31 * h + shoot(ball, 0);
        h = 31 * h + shoot(ball, 1);
        h = 31 * h + time(ball, 0);
        h = 31 * h + time(ball, 1);
        h = 31 * h + forces(ball);
        h = 31 * h + ask(ball);
        h = 31 * h + chance(5, ball, 0);
        return 31 * h + chance(5, ball, 1);
    }

    private static boolean within(int number, int bound) {
        return number >= 0 && number < bound;
    }

    private static boolean isEvent(int kind, int tick, int number) {
        return within(kind, 3) && within(tick, TICKS) && within(number, MOST);
    }

    private static int nextSeed(int seed) {
        return 1103515245 * seed + 12345;
    }

    private int found(int number) {
        finding = number;
        return -10 - number;
    }

    private void parse(int text) {
        if (text == PIN_TEXT) {
            faults[text] = board.takePins(texts[text]);
        } else if (text == CUP_TEXT) {
            faults[text] = board.takeCups(texts[text]);
        } else {
            faults[text] = board.takeBalls(texts[text]);
        }
        forgetResults();
    }

    private void forgetResults() {
        toldIsRun = false;
        searched = NONE;
        sparesKnown = false;
        bringersKnown = false;
    }

    private void runTold() {
        if (!toldIsRun) {
            told.takeTold();
            told.run();
            toldIsRun = true;
        }
    }

    /** The choice by which the score is most (what = 0), or that score. */
    private int bestChoice(int thing, int number, int what) {
        int search = thing * MOST + number;
        if (searched != search) {
            searched = search;
            chosenScore = NONE;
            tried.takeTold();
            for (int choice = LEAST_CHOICE[thing]; choice <= GREATEST_CHOICE[thing]; choice++) {
                tried.choose(thing, number, choice);
                tried.run();
                int score = tried.score();
                if (score > chosenScore) {
                    chosen = choice;
                    chosenScore = score;
                }
            }
        }
        return what == 0 ? chosen : chosenScore;
    }

    /** The choices by which all that was seen comes out so, as bits. */
    private int agreeing(int thing, int number) {
        tried.takeTold();
        int bits = 0;
        for (int choice = LEAST_CHOICE[thing]; choice <= GREATEST_CHOICE[thing]; choice++) {
            tried.choose(thing, number, choice);
            tried.run();
            if (tried.agrees(sights)) {
                bits |= 1 << choice;
            }
        }
        return bits;
    }

    private void findSpares() {
        tried.takeTold();
        int n = board.events.size;
        spareCount = NONE;
        firstSpare = NONE;
        secondSpare = NONE;
        if (losesNoneWithout(0)) {
            spareCount = 0;
            return;
        }
        for (int i = 0; i < n; i++) {
            if (losesNoneWithout(1 << i)) {
                spareCount = 1;
                firstSpare = i;
                return;
            }
        }
        for (int i = 0; i < n; i++) {
            for (int j = i + 1; j < n; j++) {
                if (losesNoneWithout(1 << i | 1 << j)) {
                    spareCount = 2;
                    firstSpare = i;
                    secondSpare = j;
                    return;
                }
            }
        }
    }

    private boolean losesNoneWithout(int spared) {
        tried.kept = board.allEvents() & ~spared;
        tried.run();
        return tried.lost() == 0;
    }

    /** Runs the ball with each of its forces, and answers how many of the runs have marks. */
    private int markForces(int ball) {
        tried.takeTold();
        int runs = 0;
        for (int force = 1; force <= FORCES; force++) {
            tried.choose(HARD, ball, force);
            tried.run();
            if (tried.agrees(sights)) {
                for (int tick = 0; tick < TICKS; tick++) {
                    marks[2 * (runs * TICKS + tick)] = tried.mark(tick, 0);
                    marks[2 * (runs * TICKS + tick) + 1] = tried.mark(tick, MOST / 2);
                }
                runs++;
            }
        }
        return runs;
    }

    private int largestGroup(int tick, int runs) {
        int largest = 0;
        for (int a = 0; a < runs; a++) {
            int alike = 0;
            for (int b = 0; b < runs; b++) {
                int i = 2 * (a * TICKS + tick);
                int j = 2 * (b * TICKS + tick);
                if (marks[i] == marks[j] && marks[i + 1] == marks[j + 1]) {
                    alike++;
                }
            }
            largest = Math.max(largest, alike);
        }
        return largest;
    }

    private void findBringers() {
        tried.takeTold();
        for (int kept = 0; kept < 1 << board.events.size; kept++) {
            tried.kept = kept;
            tried.run();
            bringers[kept] = tried.bringing();
        }
    }

    /** How many of the sixteen-to-the-events ways have just these events. */
    private long weight(int kept, int c) {
        long product = 1;
        for (int e = 0; e < board.events.size; e++) {
            product *= (kept >> e & 1) != 0 ? c : SIXTEENTHS - c;
        }
        return product;
    }

    /** A text as it was typed. */
    private static final class Text {
        final int[] bytes;
        int size = 0;

        Text(int limit) {
            bytes = new int[limit];
        }

        boolean append(int b) {
            if (size >= bytes.length) {
                return false;
            }
            bytes[size] = b;
            size++;
            return true;
        }

        /** The byte at a place; NONE behind the end. */
        int byteAt(int place) {
            return place >= 0 && place < size ? bytes[place] : NONE;
        }

        /** The byte at a place, counted from another one on; NONE where it is not one of so many. */
        int countedFrom(int first, int place, int many) {
            int counted = byteAt(place) - first;
            return within(counted, many) ? counted : NONE;
        }
    }

    /** Up to eight slips of four numbers each. */
    private static final class Slips {
        static final int WIDTH = 4;

        final int[] numbers = new int[MOST_SLIPS * WIDTH];
        int size = 0;

        boolean isFull() {
            return size >= MOST_SLIPS;
        }

        void append(int a, int b, int c, int d) {
            if (isFull()) {
                return;
            }
            int first = size * WIDTH;
            numbers[first] = a;
            numbers[first + 1] = b;
            numbers[first + 2] = c;
            numbers[first + 3] = d;
            size++;
        }

        int number(int slip, int i) {
            return numbers[slip * WIDTH + i];
        }
    }

    /** What is told of pins, cups, balls and events; a text with a fault tells nothing. */
    private static final class Board {
        final int[] pinCells = new int[MOST];
        final int[] pinSorts = new int[MOST];
        final int[] pinIn = new int[CELLS];
        int pinCount = 0;
        final int[] worths = new int[COLUMNS];
        final int[] ballTicks = new int[MOST];
        final int[] ballHards = new int[MOST];
        int ballCount = 0;
        int room = FIRST_ROOM;
        final Slips events = new Slips();

        Board() {
            Arrays.fill(pinIn, NONE);
        }

        int allEvents() {
            return (1 << events.size) - 1;
        }

        int takePins(Text text) {
            clearPins();
            int fault = scanPins(text);
            if (fault != NONE) {
                clearPins();
            }
            return fault;
        }

        private void clearPins() {
            pinCount = 0;
            Arrays.fill(pinIn, NONE);
        }

        private int scanPins(Text text) {
            if (text.size == 0) {
                return NONE;
            }
            for (int pin = 0; pin < MOST; pin++) {
                int i = 4 * pin;
                int row = text.countedFrom('0', i, ROWS);
                if (row == NONE) {
                    return i;
                }
                int column = text.countedFrom('0', i + 1, COLUMNS);
                if (column == NONE || pinIn[row * COLUMNS + column] != NONE) {
                    return i + 1;
                }
                int sort = sortOf(text.byteAt(i + 2));
                if (sort == NONE) {
                    return i + 2;
                }
                addPin(row * COLUMNS + column, sort);
                if (text.size == i + 3) {
                    return NONE;
                }
                if (text.byteAt(i + 3) != ';') {
                    return i + 3;
                }
            }
            return 4 * MOST;
        }

        private static int sortOf(int b) {
            switch (b) {
                case 'l':
                    return LEFT;
                case 'r':
                    return RIGHT;
                case 't':
                    return TURNS;
                case 'b':
                    return BELL;
                default:
                    return NONE;
            }
        }

        private void addPin(int cell, int sort) {
            pinCells[pinCount] = cell;
            pinSorts[pinCount] = sort;
            pinIn[cell] = pinCount;
            pinCount++;
        }

        int takeCups(Text text) {
            Arrays.fill(worths, 0);
            for (int i = 0; i < text.size && i < COLUMNS; i++) {
                int worth = text.countedFrom('0', i, 10);
                if (worth == NONE) {
                    Arrays.fill(worths, 0);
                    return i;
                }
                worths[i] = worth;
            }
            return NONE;
        }

        int takeBalls(Text text) {
            ballCount = 0;
            int fault = scanBalls(text);
            if (fault != NONE) {
                ballCount = 0;
            }
            return fault;
        }

        private int scanBalls(Text text) {
            if (text.size == 0) {
                return NONE;
            }
            for (int ball = 0; ball < MOST; ball++) {
                int i = 3 * ball;
                int tick = text.countedFrom('a', i, TICKS);
                if (tick == NONE) {
                    return i;
                }
                int force = text.countedFrom('1', i + 1, FORCES);
                if (force == NONE) {
                    return i + 1;
                }
                ballTicks[ball] = tick;
                ballHards[ball] = force + 1;
                ballCount++;
                if (text.size == i + 2) {
                    return NONE;
                }
                if (text.byteAt(i + 2) != ';') {
                    return i + 2;
                }
            }
            return 3 * MOST;
        }
    }

    /** The ticks 0 to 23 of a board, with what is told of it or with something else in its place. */
    private static final class Course {
        final Board board;

        final int[] sorts = new int[MOST];
        final int[] ticks = new int[MOST];
        final int[] hards = new int[MOST];
        int ballCount = 0;
        int kept = 0;

        /** Where each pin sends the next ball: a column less, none, or a column more. */
        final int[] ways = new int[MOST];
        final int[] ballOn = new int[CELLS];
        final int[] ballsInRow = new int[ROWS];
        final int[] place = new int[MOST];
        int waiting = 0;

        final int[] places = new int[TICKS * MOST];
        final int[] inCup = new int[COLUMNS];
        final int[] fellIn = new int[COLUMNS];
        final int[] brings = new int[MOST];
        final int[] endTicks = new int[MOST];
        final int[] heldTimes = new int[MOST];
        final int[] heldIn = new int[TICKS];
        int rings = 0;

        Course(Board board) {
            this.board = board;
        }

        void takeTold() {
            System.arraycopy(board.pinSorts, 0, sorts, 0, MOST);
            System.arraycopy(board.ballTicks, 0, ticks, 0, MOST);
            System.arraycopy(board.ballHards, 0, hards, 0, MOST);
            ballCount = board.ballCount;
            kept = board.allEvents();
        }

        void choose(int thing, int number, int choice) {
            if (thing == HARD) {
                hards[number] = choice;
            } else if (thing == TICK) {
                ticks[number] = choice;
            } else {
                sorts[number] = choice;
            }
        }

        void run() {
            begin();
            for (int tick = 0; tick < TICKS; tick++) {
                if (kept != 0) {
                    doEvents(tick);
                }
                for (int row = ROWS - 1; row >= 0; row--) {
                    if (ballsInRow[row] != 0) {
                        fallFrom(row, tick);
                    }
                }
                if (waiting != 0) {
                    letIn(tick);
                }
                System.arraycopy(place, 0, places, tick * MOST, MOST);
            }
        }

        private void begin() {
            for (int pin = 0; pin < MOST; pin++) {
                ways[pin] = sorts[pin] == BELL ? 0 : sorts[pin] == RIGHT ? 1 : -1;
            }
            Arrays.fill(ballOn, NONE);
            Arrays.fill(ballsInRow, 0);
            Arrays.fill(place, NONE);
            waiting = (1 << ballCount) - 1;
            Arrays.fill(inCup, 0);
            Arrays.fill(fellIn, 0);
            Arrays.fill(brings, 0);
            Arrays.fill(endTicks, NONE);
            Arrays.fill(heldTimes, 0);
            Arrays.fill(heldIn, 0);
            rings = 0;
        }

        private void doEvents(int tick) {
            Slips events = board.events;
            for (int e = 0; e < events.size; e++) {
                if ((kept >> e & 1) == 0 || events.number(e, 1) != tick) {
                    continue;
                }
                int kind = events.number(e, 0);
                int number = events.number(e, 2);
                if (kind == TILT) {
                    tilt(number % 2 == 1);
                } else if (kind == KNOCK && number < board.pinCount) {
                    ways[number] = -ways[number];
                } else if (kind == EMPTY && number < COLUMNS) {
                    inCup[number] = 0;
                }
            }
        }

        /** Goes from the column at the edge backwards, so that the ball ahead has made way. */
        private void tilt(boolean toRight) {
            int step = toRight ? 1 : -1;
            for (int behind = 1; behind < COLUMNS; behind++) {
                int column = toRight ? COLUMNS - 1 - behind : behind;
                for (int row = 0; row < ROWS; row++) {
                    int cell = row * COLUMNS + column;
                    int ball = ballOn[cell];
                    if (ball != NONE && ballOn[cell + step] == NONE) {
                        ballOn[cell] = NONE;
                        ballOn[cell + step] = ball;
                        place[ball] = cell + step;
                    }
                }
            }
        }

        private void fallFrom(int row, int tick) {
            int falling = ballsInRow[row];
            for (int ball = 0; ball < ballCount; ball++) {
                if ((falling >> ball & 1) == 0) {
                    continue;
                }
                int cell = place[ball];
                int pin = board.pinIn[cell];
                int to = columnFrom(cell % COLUMNS, pin);
                int below = (row + 1) * COLUMNS + to;
                if (row < ROWS - 1 && ballOn[below] != NONE) {
                    heldTimes[ball]++;
                    heldIn[tick]++;
                    continue;
                }
                pass(pin, ball);
                ballOn[cell] = NONE;
                ballsInRow[row] &= ~(1 << ball);
                if (row < ROWS - 1) {
                    settle(ball, below, row + 1);
                } else {
                    drop(ball, to, tick);
                }
            }
        }

        private int columnFrom(int column, int pin) {
            if (pin == NONE) {
                return column;
            }
            int to = column + ways[pin];
            return to < 0 || to >= COLUMNS ? column : to;
        }

        private void pass(int pin, int ball) {
            if (pin == NONE) {
                return;
            }
            if (sorts[pin] == TURNS) {
                ways[pin] = -ways[pin];
            } else if (sorts[pin] == BELL) {
                rings++;
                brings[ball] += 2;
            }
        }

        private void settle(int ball, int cell, int row) {
            ballOn[cell] = ball;
            ballsInRow[row] |= 1 << ball;
            place[ball] = cell;
        }

        private void drop(int ball, int column, int tick) {
            endTicks[ball] = tick;
            if (inCup[column] < board.room) {
                inCup[column]++;
                fellIn[column]++;
                brings[ball] += board.worths[column];
                place[ball] = FIRST_CUP + column;
            } else {
                place[ball] = FIRST_GUTTER + column;
            }
        }

        private void letIn(int tick) {
            for (int ball = 0; ball < ballCount; ball++) {
                int cell = hards[ball] - 1;
                if ((waiting >> ball & 1) != 0 && ticks[ball] <= tick && ballOn[cell] == NONE) {
                    waiting &= ~(1 << ball);
                    settle(ball, cell, 0);
                }
            }
        }

        int rowOf(int tick, int ball) {
            int where = places[tick * MOST + ball];
            return where == NONE ? NONE : where / COLUMNS;
        }

        int columnOf(int tick, int ball) {
            int where = places[tick * MOST + ball];
            return where == NONE ? NONE : where % COLUMNS;
        }

        int ballIn(int tick, int cell) {
            for (int ball = 0; ball < ballCount; ball++) {
                if (places[tick * MOST + ball] == cell) {
                    return ball;
                }
            }
            return NONE;
        }

        boolean agrees(Slips sights) {
            for (int i = 0; i < sights.size; i++) {
                int cell = sights.number(i, 1) * COLUMNS + sights.number(i, 2);
                int ball = ballIn(sights.number(i, 0), cell);
                if ((ball == NONE ? NO_BALL : ball) != sights.number(i, 3)) {
                    return false;
                }
            }
            return true;
        }

        /** The places of six balls behind a tick, in eight bits each. */
        long mark(int tick, int firstBall) {
            long mark = 0;
            for (int ball = firstBall; ball < firstBall + MOST / 2; ball++) {
                mark = mark << 8 | places[tick * MOST + ball] + 1;
            }
            return mark;
        }

        int score() {
            int score = 0;
            for (int ball = 0; ball < ballCount; ball++) {
                score += brings[ball];
            }
            return score;
        }

        int lost() {
            int lost = 0;
            for (int ball = 0; ball < ballCount; ball++) {
                if (place[ball] >= FIRST_GUTTER) {
                    lost++;
                }
            }
            return lost;
        }

        int onBoard() {
            int balls = 0;
            for (int row = 0; row < ROWS; row++) {
                balls += Integer.bitCount(ballsInRow[row]);
            }
            return balls;
        }

        /** The balls that bring anything, as bits. */
        int bringing() {
            int bits = 0;
            for (int ball = 0; ball < ballCount; ball++) {
                if (brings[ball] > 0) {
                    bits |= 1 << ball;
                }
            }
            return bits;
        }
    }

    /** A row of items of a form; every item holds what fits into its form. */
    private static final class Sheet {
        final int[] items = new int[MOST_ITEMS];
        int form = 0;
        int size = 0;
        boolean isLost = true;

        void renew(int newForm, int n) {
            form = newForm;
            size = n;
            isLost = false;
            Arrays.fill(items, 0);
        }

        void put(int i, int v) {
            if (form == BYTES) {
                items[i] = (byte) v;
            } else if (form == SHORTS) {
                items[i] = (short) v;
            } else {
                items[i] = v;
            }
        }

        /** Whether there are n items from i on. */
        boolean hasItems(int i, int n) {
            return i >= 0 && n >= 0 && n <= size - i;
        }

        /** The finding when item i is treated as of a form; 0 where there is none. */
        int findingFor(int treatedAs, int i) {
            if (isLost) {
                return NULL;
            }
            if (treatedAs != form) {
                return CAST;
            }
            return within(i, size) ? 0 : INDEX;
        }
    }
}
