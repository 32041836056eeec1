/** A seismograph sold as a diary: what each move on a floor of boards bumps the pens by, and what can be read from it. */
public final class BumpDiary {
    public static final int UNKNOWN = -1, OUTSIDE = -2, STATE = -3, FULL = -4, NONE = -9;
    public static final long LOST = Long.MIN_VALUE;

    private static final int NULL = 1, CAST = 2, INDEX = 3, SIZE = 4;
    private static final int WALKER = 0, KITTEN = 1, THIEF = 2, KIND_COUNT = 3;
    private static final int LEAP_LESS = 2, LEAP_MORE = 3, HOP = 4, MOVE_COUNT = 5;
    private static final int[] STRIDES = {-1, 1, -2, 2, 0};
    private static final int MIN_BOARDS = 2, MAX_BOARDS = 8, MAX_DOERS = 4, MAX_PENS = 3;
    private static final int MAX_READINGS = 8, MAX_READ_BUMP = 29, MAX_ODDS = 99;
    private static final int SHEET_COUNT = 4, MAX_CELLS = 60;
    private static final int BYTES = 0, SHORTS = 1, INTS = 2;
    private static final int MAX_MINUTES = 20, MAX_LINE = 4, MAX_PAGES = 5;
    private static final int DIGITS = 10;

    private final House floor = new House();
    private final House draft = new House();
    private final TextReader reader = new TextReader();
    private final Readings readings = new Readings();
    private final Night told = new Night();
    private final Ways ways = new Ways();
    private final Ways otherWays = new Ways();
    private final Fits fitting = new Fits();
    private final Joins joining = new Joins();
    private final Sheets sheets = new Sheets();
    private final int[] taken = new int[MAX_CELLS];
    private int traced;
    private int lastFault;

    public BumpDiary() {
    }

    // ---- 1 the house

    public int house(int sheet, int lane, int i, int n) {
        lastFault = 0;
        if (!sheets.has(sheet)) {
            return UNKNOWN;
        }
        if (!isLane(lane)) {
            return OUTSIDE;
        }
        int fault = sheets.take(taken, sheet, lane, i, n);
        if (fault != 0) {
            return faulted(fault);
        }
        int place = reader.firstFault(taken, n, draft);
        if (place != NONE) {
            return -100 - place;
        }
        floor.become(draft);
        readings.count = 0;
        return floor.doers;
    }

    public int ofDoer(int d, int what) {
        if (!floor.hasDoer(d)) {
            return UNKNOWN;
        }
        switch (what) {
            case 0:
                return floor.kinds[d];
            case 1:
                return floor.wheres[d];
            case 2:
                return floor.weights[d];
            case 3:
                return floor.movesFrom(floor.wheres[d]);
            default:
                return OUTSIDE;
        }
    }

    public int ofPen(int p, int what) {
        if (!floor.hasPen(p)) {
            return UNKNOWN;
        }
        switch (what) {
            case 0:
                return floor.penBoards[p];
            case 1:
                return floor.drawn[p];
            case 2:
                return floor.highest[p];
            default:
                return OUTSIDE;
        }
    }

    public int creak(int b) {
        return floor.hasBoard(b) ? floor.creaking[b] : UNKNOWN;
    }

    public int oil(int b, int v) {
        if (!floor.hasBoard(b)) {
            return UNKNOWN;
        }
        if (!isDigit(v)) {
            return OUTSIDE;
        }
        int was = floor.creaking[b];
        floor.creaking[b] = v;
        return was;
    }

    public int dine(int d, int v) {
        if (!floor.hasDoer(d)) {
            return UNKNOWN;
        }
        if (!isDigit(v)) {
            return OUTSIDE;
        }
        int was = floor.weights[d];
        floor.weights[d] = v;
        return was;
    }

    public int carry(int p, int b) {
        if (!floor.hasPen(p) || !floor.hasBoard(b)) {
            return UNKNOWN;
        }
        int was = floor.penBoards[p];
        floor.penBoards[p] = b;
        return was;
    }

    public int leap(int v) {
        if (!isDigit(v)) {
            return OUTSIDE;
        }
        if (floor.isNone()) {
            return STATE;
        }
        int was = floor.leaping;
        floor.leaping = v;
        return was;
    }

    public int bump(int p, int d, int move) {
        if (!floor.hasPen(p) || !floor.hasDoer(d)) {
            return UNKNOWN;
        }
        if (!isMove(move)) {
            return OUTSIDE;
        }
        int to = floor.reached(floor.wheres[d], move);
        return to == NONE ? STATE : floor.bumpAt(floor.penBoards[p], d, to, move);
    }

    // ---- 2 moves, nights

    public int step(int d, int move) {
        if (!floor.hasDoer(d)) {
            return UNKNOWN;
        }
        if (!isMove(move)) {
            return OUTSIDE;
        }
        int to = floor.reached(floor.wheres[d], move);
        if (to == NONE) {
            return STATE;
        }
        floor.draw(d, to, move);
        floor.wheres[d] = to;
        return to;
    }

    public int paper() {
        return floor.isNone() ? STATE : floor.newPaper();
    }

    public int night(int p, int sheet, int lane, int i, int n, int what) {
        lastFault = 0;
        if (!floor.hasPen(p) || !sheets.has(sheet)) {
            return UNKNOWN;
        }
        if (!isLane(lane) || n < 0 || n > MAX_MINUTES || !isOfNight(what)) {
            return OUTSIDE;
        }
        int fault = sheets.take(taken, sheet, lane, i, 2 * n);
        if (fault != 0) {
            return faulted(fault);
        }
        int refusal = refusalOfPairs(n);
        if (refusal != 0) {
            return refusal;
        }
        told.play(floor, floor.penBoards[p], taken, n);
        return what == 1 ? told.firstWrong : ofNight(what);
    }

    private static boolean isOfNight(int what) {
        return what >= 0 && what <= 3
            || what >= 10 && what < 10 + MAX_DOERS
            || what >= 20 && what < 20 + MAX_MINUTES;
    }

    private int refusalOfPairs(int n) {
        for (int minute = 0; minute < n && 2 * minute + 1 < taken.length; minute++) {
            if (!floor.hasDoer(taken[2 * minute])) {
                return UNKNOWN;
            }
            if (!isMove(taken[2 * minute + 1])) {
                return OUTSIDE;
            }
        }
        return 0;
    }

    private int ofNight(int what) {
        if (told.firstWrong != NONE) {
            return -100 - told.firstWrong;
        }
        if (what >= 20) {
            return told.bumpIn(what - 20);
        }
        if (what >= 10) {
            return floor.hasDoer(what - 10) ? told.boards[what - 10] : NONE;
        }
        if (what == 0) {
            return told.together();
        }
        return what == 2 ? told.firstHighest() : told.longestStill();
    }

    // ---- 3 ways, lines, pages

    public int quiet(int d, int to, int k) {
        if (!floor.hasDoer(d) || !floor.hasBoard(to)) {
            return UNKNOWN;
        }
        if (k < -2 || k >= MAX_BOARDS) {
            return OUTSIDE;
        }
        ways.search(floor, d);
        if (k == -2) {
            return ways.bumps[to];
        }
        return k == -1 ? ways.lengths[to] : ways.moveOf(to, k);
    }

    public int meet(int a, int b, int what) {
        if (!floor.hasDoer(a) || !floor.hasDoer(b) || a == b) {
            return UNKNOWN;
        }
        if (what < 0 || what > 1) {
            return OUTSIDE;
        }
        ways.search(floor, a);
        otherWays.search(floor, b);
        int best = 0;
        for (int board = 1; board < floor.boards; board++) {
            if (bothBumps(board) < bothBumps(best)) {
                best = board;
            }
        }
        return what == 0 ? best : bothBumps(best);
    }

    private int bothBumps(int board) {
        return ways.bumps[board] + otherWays.bumps[board];
    }

    public int fits(int p, int sheet, int lane, int i, int n, int what) {
        lastFault = 0;
        if (!floor.hasPen(p) || !sheets.has(sheet)) {
            return UNKNOWN;
        }
        boolean isOfFits = what == 0 || what == 1 || what >= 10 && what < 10 + MAX_LINE;
        if (!isLane(lane) || n < 0 || n > MAX_LINE || !isOfFits) {
            return OUTSIDE;
        }
        int fault = sheets.take(taken, sheet, lane, i, n);
        if (fault != 0) {
            return faulted(fault);
        }
        fitting.search(floor, floor.penBoards[p], taken, n);
        if (what == 0) {
            return fitting.count;
        }
        return what == 1 ? fitting.firstDoer : fitting.moveOfFirst(what - 10);
    }

    public int joins(int sheet, int lane, int i, int n, int what) {
        lastFault = 0;
        if (!sheets.has(sheet)) {
            return UNKNOWN;
        }
        boolean isOfJoins = what == 0 || what >= 10 && what < 10 + MAX_PAGES;
        if (!isLane(lane) || n < 0 || n > MAX_PAGES || !isOfJoins) {
            return OUTSIDE;
        }
        int fault = sheets.take(taken, sheet, lane, i, 2 * n);
        if (fault != 0) {
            return faulted(fault);
        }
        joining.search(taken, n);
        return what == 0 ? joining.count : joining.pageOfFirst(what - 10);
    }

    public int loud(int p, int what) {
        if (!floor.hasPen(p)) {
            return UNKNOWN;
        }
        if (what < 0 || what > 2) {
            return OUTSIDE;
        }
        int loudest = NONE;
        int who = NONE;
        int how = NONE;
        for (int d = 0; d < floor.doers; d++) {
            for (int move = 0; move < MOVE_COUNT; move++) {
                int to = floor.reached(floor.wheres[d], move);
                int bumped = to == NONE ? NONE : floor.bumpAt(floor.penBoards[p], d, to, move);
                if (bumped > loudest) {
                    loudest = bumped;
                    who = d;
                    how = move;
                }
            }
        }
        if (what == 0) {
            return loudest;
        }
        return what == 1 ? who : how;
    }

    public int part() {
        if (floor.isNone()) {
            return STATE;
        }
        for (int b = 0; b < floor.boards; b++) {
            if (tellsAllApart(b)) {
                return b;
            }
        }
        return NONE;
    }

    private boolean tellsAllApart(int penBoard) {
        // No BUMP of a hop is above 18, so a set of them fits in an int; 0 is in it from the start, as it tells nothing.
        int seen = 1;
        for (int d = 0; d < floor.doers; d++) {
            int bit = 1 << floor.bumpAt(penBoard, d, floor.wheres[d], HOP);
            if ((seen & bit) != 0) {
                return false;
            }
            seen |= bit;
        }
        return true;
    }

    // ---- 4 by how much it bumped

    public int reading(int d, int b, int p, int v) {
        if (!floor.hasDoer(d) || !floor.hasBoard(b) || !floor.hasPen(p)) {
            return UNKNOWN;
        }
        if (v < 0 || v > MAX_READ_BUMP) {
            return OUTSIDE;
        }
        return readings.isFull() ? FULL : readings.add(d, b, p, v);
    }

    public int back(int k) {
        if (k < 0 || k > readings.count) {
            return OUTSIDE;
        }
        readings.count -= k;
        return readings.count;
    }

    public int weights(int d) {
        if (!floor.hasDoer(d)) {
            return UNKNOWN;
        }
        return valuesByWhichSo(floor.weights, d, DIGITS);
    }

    public int kinds(int d) {
        if (!floor.hasDoer(d)) {
            return UNKNOWN;
        }
        return valuesByWhichSo(floor.kinds, d, KIND_COUNT);
    }

    public int creaks(int b) {
        if (!floor.hasBoard(b)) {
            return UNKNOWN;
        }
        return valuesByWhichSo(floor.creaking, b, DIGITS);
    }

    /** Tries each value in one place of the HOUSE, and leaves there what was there. */
    private int valuesByWhichSo(int[] row, int place, int bound) {
        if (place < 0 || place >= row.length) {
            return 0;
        }
        int was = row[place];
        int set = 0;
        for (int value = 0; value < bound; value++) {
            row[place] = value;
            if (readings.areSo(floor)) {
                set |= 1 << value;
            }
        }
        row[place] = was;
        return set;
    }

    public long odds(int p, int v, int which) {
        if (!floor.hasPen(p) || v < 0 || v > MAX_ODDS || which < 0 || which > 1) {
            return LOST;
        }
        int upper = rowsOfAtLeast(v, floor.penBoards[p], 0);
        int lower = 1;
        for (int d = 0; d < floor.doers; d++) {
            lower *= floor.movesFrom(floor.wheres[d]);
        }
        int shared = commonDivisor(lower, upper);
        if (shared == 0) {
            return LOST;
        }
        return which == 0 ? upper / shared : lower / shared;
    }

    /** How many rows of MOVES of the DOERS from d on have BUMPS that are together v at least. */
    private int rowsOfAtLeast(int v, int penBoard, int d) {
        if (d >= floor.doers) {
            return v <= 0 ? 1 : 0;
        }
        int rows = 0;
        for (int move = 0; move < MOVE_COUNT; move++) {
            int to = floor.reached(floor.wheres[d], move);
            if (to != NONE) {
                rows += rowsOfAtLeast(v - floor.bumpAt(penBoard, d, to, move), penBoard, d + 1);
            }
        }
        return rows;
    }

    private static int commonDivisor(int a, int b) {
        // Euclid's way ends within fifty turns for any two ints.
        for (int turn = 0; turn < 100 && b != 0; turn++) {
            int rest = a % b;
            a = b;
            b = rest;
        }
        return a;
    }

    // ---- 5 sheets, parts

    public int sheet(int k, int lane, int n) {
        lastFault = 0;
        if (!sheets.has(k)) {
            return UNKNOWN;
        }
        if (!isLane(lane) || n > MAX_CELLS) {
            return OUTSIDE;
        }
        if (n < 0) {
            return faulted(SIZE);
        }
        sheets.renew(k, lane, n);
        return 1;
    }

    public int lose(int k) {
        if (!sheets.has(k)) {
            return UNKNOWN;
        }
        if (sheets.isNothing(k)) {
            return 0;
        }
        sheets.clear(k);
        return 1;
    }

    public int put(int k, int i, int v) {
        lastFault = 0;
        if (!sheets.has(k)) {
            return UNKNOWN;
        }
        if (sheets.isNothing(k)) {
            return faulted(NULL);
        }
        if (!sheets.hasCells(k, i, 1)) {
            return faulted(INDEX);
        }
        sheets.write(k, i, v);
        return 1;
    }

    public long cell(int k, int i, int lane) {
        lastFault = 0;
        if (!sheets.has(k) || !isLane(lane)) {
            return LOST;
        }
        lastFault = sheets.take(taken, k, lane, i, 1);
        return lastFault == 0 ? taken[0] : LOST;
    }

    public int copy(int k, int i, int other, int j, int n) {
        lastFault = 0;
        if (!sheets.has(k) || !sheets.has(other)) {
            return UNKNOWN;
        }
        if (sheets.isNothing(k) || sheets.isNothing(other)) {
            return faulted(NULL);
        }
        if (sheets.lanes[k] != sheets.lanes[other]) {
            return faulted(CAST);
        }
        if (n < 0 || !sheets.hasCells(k, i, n) || !sheets.hasCells(other, j, n)) {
            return faulted(INDEX);
        }
        sheets.move(k, i, other, j, n);
        return n;
    }

    public int tell(int d) {
        if (!floor.hasDoer(d)) {
            return UNKNOWN;
        }
        int weight = floor.weights[d];
        if (floor.kinds[d] == THIEF) {
            return thiefTells(weight);
        }
        return floor.kinds[d] == KITTEN ? kittenTells(weight) : walkerTells(weight);
    }

    private int walkerTells(int weight) {
        leaveNumber(1);
        return weight;
    }

    private int kittenTells(int weight) {
        leaveNumber(2);
        return walkerTells(weight) + 100;
    }

    private int thiefTells(int weight) {
        leaveNumber(3);
        return kittenTells(weight) + walkerTells(weight);
    }

    public int hear(int d) {
        if (!floor.hasDoer(d)) {
            return UNKNOWN;
        }
        if (floor.kinds[d] == THIEF) {
            leaveNumber(5);
            return 30;
        }
        leaveNumber(4);
        return d;
    }

    private void leaveNumber(int number) {
        traced = 31 * traced + number;
    }

    public int as(int d, int kind) {
        lastFault = 0;
        if (!floor.hasDoer(d)) {
            return UNKNOWN;
        }
        if (kind < WALKER || kind > THIEF) {
            return OUTSIDE;
        }
        // Each kind is all kinds of a lesser number, too.
        return floor.kinds[d] < kind ? faulted(CAST) : 1;
    }

    public int trace() {
        return traced;
    }

    public int fault() {
        return lastFault;
    }

    public int many(int what) {
        switch (what) {
            case 0:
                return floor.doers;
            case 1:
                return floor.pens;
            case 2:
                return floor.boards;
            case 3:
                return floor.leaping;
            case 4:
                return readings.count;
            default:
                return OUTSIDE;
        }
    }

    private int faulted(int fault) {
        lastFault = fault;
        return -10 - fault;
    }

    private static boolean isLane(int lane) {
        return lane >= BYTES && lane <= INTS;
    }

    private static boolean isMove(int move) {
        return move >= 0 && move < MOVE_COUNT;
    }

    private static boolean isDigit(int v) {
        return v >= 0 && v < DIGITS;
    }

    /** BOARDS, DOERS and PENS; what is there is told by the counts, as the rows are as long as they can ever be. */
    private static final class House {
        int leaping;
        int boards;
        int doers;
        int pens;
        final int[] creaking = new int[MAX_BOARDS];
        final int[] kinds = new int[MAX_DOERS];
        final int[] wheres = new int[MAX_DOERS];
        final int[] weights = new int[MAX_DOERS];
        final int[] penBoards = new int[MAX_PENS];
        final int[] drawn = new int[MAX_PENS];
        final int[] highest = new int[MAX_PENS];

        boolean isNone() {
            return boards == 0;
        }

        boolean hasBoard(int b) {
            return b >= 0 && b < boards;
        }

        boolean hasDoer(int d) {
            return d >= 0 && d < doers;
        }

        boolean hasPen(int p) {
            return p >= 0 && p < pens;
        }

        void empty() {
            leaping = 0;
            boards = 0;
            doers = 0;
            pens = 0;
        }

        /** Takes over what a TEXT tells; nothing is DRAWN then. */
        void become(House other) {
            leaping = other.leaping;
            boards = other.boards;
            doers = other.doers;
            pens = other.pens;
            System.arraycopy(other.creaking, 0, creaking, 0, MAX_BOARDS);
            System.arraycopy(other.kinds, 0, kinds, 0, MAX_DOERS);
            System.arraycopy(other.wheres, 0, wheres, 0, MAX_DOERS);
            System.arraycopy(other.weights, 0, weights, 0, MAX_DOERS);
            System.arraycopy(other.penBoards, 0, penBoards, 0, MAX_PENS);
            newPaper();
        }

        int newPaper() {
            int had = 0;
            for (int p = 0; p < pens; p++) {
                if (drawn[p] > 0) {
                    had++;
                }
                drawn[p] = 0;
                highest[p] = 0;
            }
            return had;
        }

        void addBoard(int creaks) {
            if (boards < MAX_BOARDS) {
                creaking[boards] = creaks;
                boards++;
            }
        }

        void addDoer(int kind, int board, int weight) {
            if (doers < MAX_DOERS) {
                kinds[doers] = kind;
                wheres[doers] = board;
                weights[doers] = weight;
                doers++;
            }
        }

        void addPen(int board) {
            if (pens < MAX_PENS) {
                penBoards[pens] = board;
                pens++;
            }
        }

        /** The BOARD to which a MOVE goes; NONE if there is no such BOARD or no such MOVE. */
        int reached(int from, int move) {
            if (!isMove(move)) {
                return NONE;
            }
            int to = from + STRIDES[move];
            return hasBoard(to) ? to : NONE;
        }

        int movesFrom(int board) {
            int can = 0;
            for (int move = 0; move < MOVE_COUNT; move++) {
                if (reached(board, move) != NONE) {
                    can++;
                }
            }
            return can;
        }

        int shakeOf(int d, int to, int move) {
            if (!hasDoer(d) || !hasBoard(to)) {
                return 0;
            }
            int leaps = move == LEAP_LESS || move == LEAP_MORE ? leaping : 0;
            int asWalker = weights[d] + creaking[to] + leaps;
            if (kinds[d] == THIEF) {
                return asWalker / 2;
            }
            return kinds[d] == KITTEN ? Math.max(0, asWalker - 1) : asWalker;
        }

        int bumpAt(int penBoard, int d, int to, int move) {
            return Math.max(0, shakeOf(d, to, move) - Math.abs(penBoard - to));
        }

        int bumpAtAllPens(int d, int to, int move) {
            int all = 0;
            for (int p = 0; p < pens; p++) {
                all += bumpAt(penBoards[p], d, to, move);
            }
            return all;
        }

        void draw(int d, int to, int move) {
            for (int p = 0; p < pens; p++) {
                int bumped = bumpAt(penBoards[p], d, to, move);
                drawn[p] += bumped;
                highest[p] = Math.max(highest[p], bumped);
            }
        }
    }

    /** Reads a TEXT code by code; where it stops is the FIRST FAULT, be it a wrong code or the end. */
    private static final class TextReader {
        private static final int START = 115, DOER_SIGN = 59, PEN_SIGN = 44, ZERO = 48;
        private static final int W = 119, K = 107, T = 116;
        private static final int NO_CODE = -1;
        private final int[] codes = new int[MAX_CELLS];
        private int length;
        private int at;

        /** The FIRST FAULT; NONE if it is a TEXT, which the HOUSE then is. */
        int firstFault(int[] row, int n, House into) {
            length = Math.max(0, Math.min(n, Math.min(row.length, MAX_CELLS)));
            System.arraycopy(row, 0, codes, 0, length);
            at = 0;
            into.empty();
            boolean isText = readStart(into) && readBoards(into) && readDoers(into) && readPens(into);
            return isText && at == length ? NONE : at;
        }

        private boolean readStart(House into) {
            if (!isNext(START)) {
                return false;
            }
            at++;
            int leaps = digitBelow(DIGITS);
            into.leaping = Math.max(0, leaps);
            return leaps != NONE;
        }

        private boolean readBoards(House into) {
            for (int b = 0; b < MAX_BOARDS; b++) {
                int creaks = digitBelow(DIGITS);
                if (creaks == NONE) {
                    return b >= MIN_BOARDS;
                }
                into.addBoard(creaks);
            }
            return true;
        }

        private boolean readDoers(House into) {
            for (int d = 0; d < MAX_DOERS; d++) {
                if (!isNext(DOER_SIGN)) {
                    return d > 0;
                }
                at++;
                if (!readDoer(into)) {
                    return false;
                }
            }
            return true;
        }

        private boolean readDoer(House into) {
            int kind = kindOf(next());
            if (kind == NONE) {
                return false;
            }
            at++;
            int board = digitBelow(into.boards);
            if (board == NONE) {
                return false;
            }
            int weight = digitBelow(DIGITS);
            if (weight == NONE) {
                return false;
            }
            into.addDoer(kind, board, weight);
            return true;
        }

        private boolean readPens(House into) {
            for (int p = 0; p < MAX_PENS; p++) {
                if (!isNext(PEN_SIGN)) {
                    return p > 0;
                }
                at++;
                int board = digitBelow(into.boards);
                if (board == NONE) {
                    return false;
                }
                into.addPen(board);
            }
            return true;
        }

        private static int kindOf(int letter) {
            switch (letter) {
                case W:
                    return WALKER;
                case K:
                    return KITTEN;
                case T:
                    return THIEF;
                default:
                    return NONE;
            }
        }

        /** The next code as a digit, which is then behind us; NONE, and nothing is passed, if it is no such digit. */
        private int digitBelow(int bound) {
            int code = next();
            if (code < ZERO || code >= ZERO + bound) {
                return NONE;
            }
            at++;
            return code - ZERO;
        }

        private boolean isNext(int code) {
            return next() == code;
        }

        private int next() {
            return at >= 0 && at < length ? codes[at] : NO_CODE;
        }
    }

    /** A NIGHT that is played on a copy of where all are. */
    private static final class Night {
        final int[] boards = new int[MAX_DOERS];
        private final int[] line = new int[MAX_MINUTES];
        private int minutes;
        int firstWrong;

        /** The pairs are of DOERS and MOVES that there are. */
        void play(House house, int penBoard, int[] pairs, int n) {
            System.arraycopy(house.wheres, 0, boards, 0, MAX_DOERS);
            minutes = Math.max(0, Math.min(n, Math.min(MAX_MINUTES, pairs.length / 2)));
            firstWrong = NONE;
            for (int minute = 0; minute < minutes && firstWrong == NONE; minute++) {
                int d = pairs[2 * minute];
                int move = pairs[2 * minute + 1];
                int to = house.hasDoer(d) ? house.reached(boards[d], move) : NONE;
                if (to == NONE) {
                    firstWrong = minute;
                } else {
                    line[minute] = house.bumpAt(penBoard, d, to, move);
                    boards[d] = to;
                }
            }
        }

        int bumpIn(int minute) {
            return minute >= 0 && minute < minutes ? line[minute] : NONE;
        }

        int together() {
            int all = 0;
            for (int minute = 0; minute < minutes; minute++) {
                all += line[minute];
            }
            return all;
        }

        int firstHighest() {
            int best = NONE;
            int highest = NONE;
            for (int minute = 0; minute < minutes; minute++) {
                if (line[minute] > highest) {
                    highest = line[minute];
                    best = minute;
                }
            }
            return best;
        }

        int longestStill() {
            int longest = 0;
            int still = 0;
            for (int minute = 0; minute < minutes; minute++) {
                still = line[minute] == 0 ? still + 1 : 0;
                longest = Math.max(longest, still);
            }
            return longest;
        }
    }

    /** QUIET rows of one DOER to all BOARDS. */
    private static final class Ways {
        private static final int FAR = 1000000;
        // A row of MOVES is kept as a number of digits of three bits, so that of rows of like length the first is the least.
        private static final int DIGIT_BITS = 3, DIGIT_MASK = 7;
        final int[] bumps = new int[MAX_BOARDS];
        final int[] lengths = new int[MAX_BOARDS];
        private final int[] rows = new int[MAX_BOARDS];

        void search(House house, int d) {
            for (int b = 0; b < MAX_BOARDS; b++) {
                bumps[b] = FAR;
                lengths[b] = 0;
                rows[b] = 0;
            }
            if (!house.hasDoer(d)) {
                return;
            }
            bumps[house.wheres[d]] = 0;
            // No best row comes twice to a BOARD, so it is found in as many rounds as there are BOARDS.
            boolean better = true;
            for (int round = 0; round < MAX_BOARDS && better; round++) {
                better = isAnyRowBettered(house, d);
            }
        }

        private boolean isAnyRowBettered(House house, int d) {
            boolean any = false;
            for (int from = 0; from < house.boards; from++) {
                // A hop only adds to a row, so it is never tried.
                for (int move = 0; move < HOP && bumps[from] < FAR; move++) {
                    int to = house.reached(from, move);
                    if (to != NONE && isRowBettered(from, to, move, house.bumpAtAllPens(d, to, move))) {
                        any = true;
                    }
                }
            }
            return any;
        }

        private boolean isRowBettered(int from, int to, int move, int more) {
            int all = bumps[from] + more;
            int length = lengths[from] + 1;
            int row = rows[from] << DIGIT_BITS | move;
            if (!isBefore(all, length, row, to)) {
                return false;
            }
            bumps[to] = all;
            lengths[to] = length;
            rows[to] = row;
            return true;
        }

        private boolean isBefore(int all, int length, int row, int to) {
            if (all != bumps[to]) {
                return all < bumps[to];
            }
            return length != lengths[to] ? length < lengths[to] : row < rows[to];
        }

        int moveOf(int to, int k) {
            if (to < 0 || to >= MAX_BOARDS || k < 0 || k >= lengths[to]) {
                return NONE;
            }
            return rows[to] >> DIGIT_BITS * (lengths[to] - 1 - k) & DIGIT_MASK;
        }
    }

    /** FITS: all rows of MOVES are tried in their order, so the first that is found is the first one. */
    private static final class Fits {
        private final int[] line = new int[MAX_LINE];
        private final int[] row = new int[MAX_LINE];
        private final int[] first = new int[MAX_LINE];
        private int penBoard;
        private int length;
        int count;
        int firstDoer;

        void search(House house, int pen, int[] cells, int n) {
            length = Math.max(0, Math.min(n, Math.min(MAX_LINE, cells.length)));
            System.arraycopy(cells, 0, line, 0, length);
            penBoard = pen;
            count = 0;
            firstDoer = NONE;
            for (int d = 0; d < house.doers; d++) {
                follow(house, d, house.wheres[d], 0);
            }
        }

        private void follow(House house, int d, int from, int minute) {
            if (minute >= length) {
                keepFound(d);
                return;
            }
            for (int move = 0; move < MOVE_COUNT; move++) {
                int to = house.reached(from, move);
                if (to != NONE && house.bumpAt(penBoard, d, to, move) == line[minute]) {
                    row[minute] = move;
                    follow(house, d, to, minute + 1);
                }
            }
        }

        private void keepFound(int d) {
            if (count == 0) {
                firstDoer = d;
                System.arraycopy(row, 0, first, 0, MAX_LINE);
            }
            count++;
        }

        int moveOfFirst(int k) {
            return count > 0 && k >= 0 && k < length ? first[k] : NONE;
        }
    }

    /** JOINS: all orders are tried in their order, so the first that is found is the first one. */
    private static final class Joins {
        private final int[] begins = new int[MAX_PAGES];
        private final int[] ends = new int[MAX_PAGES];
        private final int[] order = new int[MAX_PAGES];
        private final int[] first = new int[MAX_PAGES];
        private int pages;
        int count;

        void search(int[] pairs, int n) {
            pages = Math.max(0, Math.min(n, Math.min(MAX_PAGES, pairs.length / 2)));
            for (int page = 0; page < pages; page++) {
                begins[page] = pairs[2 * page];
                ends[page] = pairs[2 * page + 1];
            }
            count = 0;
            lay(0, 0);
        }

        private void lay(int place, int laid) {
            if (place >= pages) {
                keepFound();
                return;
            }
            for (int page = 0; page < pages; page++) {
                boolean isFree = (laid & 1 << page) == 0;
                if (isFree && (place == 0 || begins[page] == ends[order[place - 1]])) {
                    order[place] = page;
                    lay(place + 1, laid | 1 << page);
                }
            }
        }

        private void keepFound() {
            if (count == 0) {
                System.arraycopy(order, 0, first, 0, MAX_PAGES);
            }
            count++;
        }

        int pageOfFirst(int k) {
            return count > 0 && k >= 0 && k < pages ? first[k] : NONE;
        }
    }

    /** READINGS; whether they are so is asked of the HOUSE as it is now. */
    private static final class Readings {
        private final int[] who = new int[MAX_READINGS];
        private final int[] where = new int[MAX_READINGS];
        private final int[] pen = new int[MAX_READINGS];
        private final int[] bumped = new int[MAX_READINGS];
        int count;

        boolean isFull() {
            return count >= MAX_READINGS;
        }

        int add(int d, int b, int p, int v) {
            if (isFull()) {
                return FULL;
            }
            int number = count;
            who[number] = d;
            where[number] = b;
            pen[number] = p;
            bumped[number] = v;
            count++;
            return number;
        }

        boolean areSo(House house) {
            for (int k = 0; k < count; k++) {
                boolean known = house.hasPen(pen[k]);
                if (!known || house.bumpAt(house.penBoards[pen[k]], who[k], where[k], HOP) != bumped[k]) {
                    return false;
                }
            }
            return true;
        }
    }

    /** SHEETS, whose cells lie one sheet behind another in one row that is made once. */
    private static final class Sheets {
        private static final int NOTHING = -1;
        final int[] lanes = {NOTHING, NOTHING, NOTHING, NOTHING};
        private final int[] lengths = new int[SHEET_COUNT];
        private final int[] cells = new int[SHEET_COUNT * MAX_CELLS];

        boolean has(int k) {
            return k >= 0 && k < SHEET_COUNT;
        }

        boolean isNothing(int k) {
            return !has(k) || lanes[k] == NOTHING;
        }

        void clear(int k) {
            if (has(k)) {
                lanes[k] = NOTHING;
                lengths[k] = 0;
            }
        }

        void renew(int k, int lane, int n) {
            if (!has(k) || n < 0 || n > MAX_CELLS) {
                return;
            }
            lanes[k] = lane;
            lengths[k] = n;
            for (int i = 0; i < n; i++) {
                cells[k * MAX_CELLS + i] = 0;
            }
        }

        /** Whether there are n cells from i on, and a place i even if n is 0. */
        boolean hasCells(int k, int i, int n) {
            return has(k) && i >= 0 && i <= lengths[k] && n <= lengths[k] - i;
        }

        void write(int k, int i, int v) {
            if (hasCells(k, i, 1)) {
                cells[k * MAX_CELLS + i] = cutTo(lanes[k], v);
            }
        }

        private static int cutTo(int lane, int v) {
            if (lane == BYTES) {
                return (byte) v;
            }
            return lane == SHORTS ? (short) v : v;
        }

        /** Brings n cells from i on into a row; 0, or the FAULT that was come to. */
        int take(int[] into, int k, int lane, int i, int n) {
            if (!isNothing(k) && lanes[k] != lane) {
                return CAST;
            }
            if (isNothing(k)) {
                return NULL;
            }
            if (n < 0) {
                return SIZE;
            }
            if (!hasCells(k, i, n) || n > into.length) {
                return INDEX;
            }
            System.arraycopy(cells, k * MAX_CELLS + i, into, 0, n);
            return 0;
        }

        void move(int k, int i, int other, int j, int n) {
            if (n >= 0 && hasCells(k, i, n) && hasCells(other, j, n)) {
                System.arraycopy(cells, k * MAX_CELLS + i, cells, other * MAX_CELLS + j, n);
            }
        }
    }
}
