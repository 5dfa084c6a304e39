/** A board of cells with cages: told, marked, stepped through, solved and drawn. See README.md. */
public final class CrossSums {
    public static final int NONE = -1;

    private static final int LACKING = -2;
    private static final int ALREADY = -2;
    private static final int BROKEN = -2;
    private static final int NO_MARK = -3;

    private static final int MOST_BYTES = 400;
    private static final int FED_BYTES = 20;
    private static final int MOST_CELLS = 36;
    private static final int MOST_SIDE = 6;
    private static final int MOST_OPEN = 16;
    private static final int MOST_CAGES = 12;
    private static final int CAGE_CELLS = 6;
    private static final int TOP_DIGIT = 7;
    private static final int DIGIT_SETS = 128;
    private static final int MOST_UNDONE = 10;
    private static final int SHELVES = 2;
    private static final int MOST_SOLUTIONS = 50;
    private static final int NUMBERED_SOLUTIONS = 10;

    private static final int SUM = 0;
    private static final int PRODUCT = 1;
    private static final int SPAN = 2;
    private static final int ANY = 3;
    private static final int MOST_SUM = 99;
    private static final int MOST_PRODUCT = 999999;
    private static final int MOST_SPAN = 6;

    private final Tape tape = new Tape();
    private final Board now = new Board();
    private final Board draft = new Board();
    private final Board[] past = new Board[MOST_UNDONE];
    private int pastNext;
    private int pastMany;
    private final Board[] shelf = new Board[SHELVES];
    private int kept;
    private final int[] trial = new int[MOST_CELLS];
    private final Rules rules = new Rules();
    private final Ways ways = new Ways();
    private final Logic logic = new Logic();
    private final Search search = new Search();
    private final Writer writer = new Writer();
    private final Maker maker = new Maker();

    public CrossSums() {
        for (int i = 0; i < MOST_UNDONE; i++) {
            past[i] = new Board();
        }
        for (int i = 0; i < SHELVES; i++) {
            shelf[i] = new Board();
        }
    }

    // ---- the tape ----

    public int feed(int a, int b, int c, int d, int e) {
        if (!tape.hasRoom(FED_BYTES)) {
            return NONE;
        }
        tape.add(a);
        tape.add(b);
        tape.add(c);
        tape.add(d);
        tape.add(e);
        return tape.length();
    }

    public int end(int n) {
        return tape.cut(n) ? n : NONE;
    }

    public int tell() {
        int fault = tape.readBoard();
        tape.cut(0);
        if (fault != NONE) {
            return -2 - fault;
        }
        now.copyFrom(tape.board);
        pastMany = 0;
        return now.cages;
    }

    // ---- acts ----

    public int put(int cell, int digit) {
        if (!now.isOpen(cell) || !now.isDigit(digit)) {
            return NONE;
        }
        if (now.isDone(cell)) {
            return ALREADY;
        }
        if (!now.hasMark(cell, digit)) {
            return NO_MARK;
        }
        remember();
        now.putDigit(cell, digit);
        return 1;
    }

    public int lift(int cell) {
        if (!now.isOpen(cell)) {
            return NONE;
        }
        if (!now.isPut(cell)) {
            return LACKING;
        }
        int digit = now.digitOf(cell);
        remember();
        now.free(cell);
        return digit;
    }

    public int strike(int cell, int digit) {
        if (!now.isOpen(cell) || !now.isDigit(digit)) {
            return NONE;
        }
        if (now.isDone(cell)) {
            return ALREADY;
        }
        if (!now.hasMark(cell, digit)) {
            return NO_MARK;
        }
        remember();
        now.marks[cell] &= ~(1 << digit);
        return Integer.bitCount(now.marks[cell]);
    }

    public int give(int cell, int digit) {
        if (!now.isOpen(cell) || !now.isDigit(digit)) {
            return NONE;
        }
        if (now.isGiven(cell) && now.digitOf(cell) == digit) {
            return ALREADY;
        }
        remember();
        now.giveDigit(cell, digit);
        return 1;
    }

    public int total(int cage, int n) {
        if (!now.isCage(cage) || now.sort[cage] == ANY || n < 0 || n > mostTotal(now.sort[cage])) {
            return NONE;
        }
        int was = now.totals[cage];
        if (was == n) {
            return ALREADY;
        }
        remember();
        now.totals[cage] = n;
        return was;
    }

    public int step() {
        if (!now.isTold()) {
            return NONE;
        }
        logic.find(now);
        if (logic.isBroken()) {
            return BROKEN;
        }
        if (logic.kind != Logic.NO_STEP) {
            remember();
            logic.apply(now);
        }
        return logic.kind;
    }

    public int run() {
        if (!now.isTold()) {
            return NONE;
        }
        logic.find(now);
        if (logic.isBroken()) {
            return BROKEN;
        }
        if (logic.kind == Logic.NO_STEP) {
            return 0;
        }
        remember();
        logic.applyAll(now);
        return logic.steps;
    }

    public int make(int seed) {
        if (!now.isTold()) {
            return NONE;
        }
        draft.copyFrom(now);
        if (!maker.drawDigits(draft, seed)) {
            return LACKING;
        }
        maker.tellTotals(draft);
        giveUntilOneIsLeft();
        remember();
        now.copyFrom(draft);
        return Long.bitCount(now.given);
    }

    private void giveUntilOneIsLeft() {
        for (int many = 0; many < MOST_OPEN; many++) {
            if (search.look(draft, draft.marks, 2) < 2) {
                return;
            }
            int place = search.firstUnlike();
            if (place == NONE) {
                return;
            }
            draft.giveDigit(search.cellAt(place), maker.digitAt(place));
        }
    }

    // ---- undone, kept ----

    private void remember() {
        if (pastNext >= 0 && pastNext < MOST_UNDONE) {
            past[pastNext].copyFrom(now);
            pastNext = (pastNext + 1) % MOST_UNDONE;
            pastMany = Math.min(pastMany + 1, MOST_UNDONE);
        }
    }

    public int undo() {
        if (pastMany <= 0) {
            return NONE;
        }
        pastNext = Math.floorMod(pastNext - 1, MOST_UNDONE);
        now.copyFrom(past[pastNext]);
        pastMany--;
        return pastMany;
    }

    public int keep(int shelfNumber) {
        if (shelfNumber < 0 || shelfNumber >= SHELVES) {
            return NONE;
        }
        shelf[shelfNumber].copyFrom(now);
        kept |= 1 << shelfNumber;
        return now.cages;
    }

    public int back(int shelfNumber) {
        if (shelfNumber < 0 || shelfNumber >= SHELVES) {
            return NONE;
        }
        if ((kept >> shelfNumber & 1) == 0) {
            return LACKING;
        }
        now.copyFrom(shelf[shelfNumber]);
        pastMany = 0;
        return now.cages;
    }

    // ---- cells and cages ----

    public int cell(int cell, int what) {
        if (!now.isCell(cell)) {
            return NONE;
        }
        switch (what) {
            case 0:
                return now.isOpen(cell) ? 1 : 0;
            case 1:
                return now.isDone(cell) ? now.digitOf(cell) : 0;
            case 2:
                return now.isGiven(cell) ? 1 : 0;
            case 3:
                return now.marks[cell];
            case 4:
                return now.cagesOf(cell);
            default:
                return NONE;
        }
    }

    public int cage(int cage, int what) {
        if (!now.isCage(cage)) {
            return NONE;
        }
        switch (what) {
            case 0:
                return now.sort[cage];
            case 1:
                return now.totals[cage];
            case 2:
                return now.size[cage];
            case 3:
                return now.isAlike(cage) ? 0 : 1;
            case 4:
                return now.doneIn(cage);
            case 5:
                tallyNow(cage);
                return ways.many();
            default:
                return what < 10 || what - 10 >= now.size[cage] ? NONE : now.cells[cage][what - 10];
        }
    }

    public int has(int cage, int digit) {
        if (!now.isCage(cage) || !now.isDigit(digit)) {
            return NONE;
        }
        tallyNow(cage);
        return ways.manyWith(digit);
    }

    public int could(int cage, int cell) {
        if (!now.isCage(cage)) {
            return NONE;
        }
        int place = now.placeIn(cage, cell);
        if (place == NONE) {
            return NONE;
        }
        Rule rule = rules.ready(now, cage);
        rule.weigh(now.marks, now.cells[cage]);
        return rule.digitsAt(place, now.marks[cell]);
    }

    public int must(int cage) {
        if (!now.isCage(cage)) {
            return NONE;
        }
        tallyNow(cage);
        return ways.inAll();
    }

    public int sets(int cage, int k) {
        if (!now.isCage(cage) || k < NONE) {
            return NONE;
        }
        tallyNow(cage);
        return k == NONE ? ways.manySets() : ways.setAt(k);
    }

    private void tallyNow(int cage) {
        ways.tally(rules.ready(now, cage), now.marks, now.cells[cage]);
    }

    // ---- steps foreseen ----

    public int next(int what) {
        if (!now.isTold() || what < 0 || what > 3) {
            return NONE;
        }
        logic.find(now);
        if (what == 0) {
            return logic.kind;
        }
        if (logic.kind == Logic.NO_STEP) {
            return LACKING;
        }
        return what == 1 ? logic.cage : what == 2 ? logic.cell : logic.digit;
    }

    public int weight(int what) {
        boolean ofCell = what >= 10 && now.isCell(what - 10);
        if (!now.isTold() || !ofCell && (what < 0 || what > 3)) {
            return NONE;
        }
        draft.copyFrom(now);
        logic.find(draft);
        logic.applyAll(draft);
        switch (what) {
            case 0:
                return logic.steps;
            case 1:
                return logic.kinds;
            case 2:
                return Long.bitCount(draft.open & ~draft.given & ~draft.put);
            case 3:
                return logic.isBroken() ? 1 : 0;
            default:
                return ofCell ? draft.marks[what - 10] : NONE;
        }
    }

    // ---- solutions ----

    public int solve(int most) {
        if (!now.isTold() || most < 1 || most > MOST_SOLUTIONS) {
            return NONE;
        }
        return search.look(now, now.marks, most);
    }

    public int solution(int k, int cell) {
        if (!now.isOpen(cell) || k < 0 || k >= NUMBERED_SOLUTIONS) {
            return NONE;
        }
        if (search.look(now, now.marks, k + 1) <= k) {
            return LACKING;
        }
        return search.digitAt(k, now.placeOf(cell));
    }

    public int agree(int cell) {
        if (!now.isOpen(cell)) {
            return NONE;
        }
        int digits = 0;
        for (int digit = 1; digit <= now.top; digit++) {
            if (now.hasMark(cell, digit) && solvableWith(cell, 1 << digit)) {
                digits |= 1 << digit;
            }
        }
        return digits;
    }

    private boolean solvableWith(int cell, int marksThere) {
        System.arraycopy(now.marks, 0, trial, 0, MOST_CELLS);
        if (cell >= 0 && cell < MOST_CELLS) {
            trial[cell] = marksThere;
        }
        return search.canSolve(now, trial);
    }

    public int hint(int what) {
        if (!now.isTold() || what < 0 || what > 1) {
            return NONE;
        }
        if (search.look(now, now.marks, 1) == 0) {
            return LACKING;
        }
        // The looks that follow forget this solution, so it is told to the draft first.
        draft.copyFrom(now);
        for (int place = 0; place < search.places(); place++) {
            draft.giveDigit(search.cellAt(place), search.digitAt(0, place));
        }
        for (int cell = 0; cell < MOST_CELLS; cell++) {
            if (now.isOpen(cell) && !now.isDone(cell)
                    && !solvableWith(cell, now.marks[cell] & ~draft.marks[cell])) {
                return what == 0 ? cell : draft.digitOf(cell);
            }
        }
        return LACKING;
    }

    public int wrong(int what) {
        if (!now.isTold() || what < 0 || what > 1) {
            return NONE;
        }
        now.marksByGiven(trial, NONE);
        if (search.look(now, trial, 2) != 1) {
            return LACKING;
        }
        int many = 0;
        int first = LACKING;
        for (int place = 0; place < search.places(); place++) {
            int cell = search.cellAt(place);
            if (!now.hasMark(cell, search.digitAt(0, place))) {
                many++;
                first = first == LACKING ? cell : first;
            }
        }
        return what == 0 ? many : first;
    }

    public long idle() {
        if (!now.isTold()) {
            return NONE;
        }
        long needless = 0;
        for (int cell = 0; cell < MOST_CELLS; cell++) {
            if (now.isGiven(cell)) {
                now.marksByGiven(trial, cell);
                if (search.look(now, trial, 2) == 1) {
                    needless |= 1L << cell;
                }
            }
        }
        return needless;
    }

    // ---- the rest that is asked ----

    public long shared(int cage, int other) {
        if (!now.isCage(cage) || !now.isCage(other) || cage == other) {
            return NONE;
        }
        return now.inside[cage] & now.inside[other];
    }

    public int combos(int sort, int n, int total) {
        if (!now.isTold() || sort < SUM || sort > SPAN || n < 1 || n > CAGE_CELLS) {
            return NONE;
        }
        int many = 0;
        for (int set = 2; set <= now.allDigits(); set += 2) {
            if (Integer.bitCount(set) == n && totalOfSet(sort, set) == total) {
                many++;
            }
        }
        return many;
    }

    public int broken(int what) {
        if (!now.isTold() || what < 0 || what > 2) {
            return NONE;
        }
        logic.study(now);
        if (what == 0) {
            return logic.isBroken() ? 1 : 0;
        }
        return what == 1 ? logic.cageWithoutWay : logic.cellWithoutMark;
    }

    public int range(int cage, boolean most) {
        if (!now.isCage(cage)) {
            return NONE;
        }
        if (now.isAlike(cage) && now.sort[cage] <= PRODUCT) {
            return rangeByCell(cage, most);
        }
        return rangeBySet(cage, most);
    }

    /** Of a sum or a product that may be alike: each cell by itself has its least or its greatest mark. */
    private int rangeByCell(int cage, boolean most) {
        int sum = 0;
        int product = 1;
        for (int i = 0; i < now.size[cage]; i++) {
            int marks = now.marks[now.cells[cage][i]];
            if (marks == 0) {
                return LACKING;
            }
            int digit = most ? greatestDigit(marks) : leastDigit(marks);
            sum += digit;
            product *= digit;
        }
        return now.sort[cage] == SUM ? sum : product;
    }

    /** Of all others the set of digits alone tells the total. */
    private int rangeBySet(int cage, boolean most) {
        Rule rule = rules.spare(now, cage);
        rule.weigh(now.marks, now.cells[cage]);
        int best = LACKING;
        for (int state = 0; state < DIGIT_SETS; state++) {
            if (rule.isReached(state)) {
                int total = totalOfSet(now.sort[cage], state << 1);
                if (best == LACKING || (most ? total > best : total < best)) {
                    best = total;
                }
            }
        }
        return best;
    }

    public int letter(int k) {
        if (k < NONE) {
            return NONE;
        }
        writer.writeBoard(now);
        return k == NONE ? writer.length() : writer.byteAt(k);
    }

    public int count(int what) {
        switch (what) {
            case 0:
                return now.wide;
            case 1:
                return now.high;
            case 2:
                return now.top;
            case 3:
                return Long.bitCount(now.open);
            case 4:
                return now.cages;
            case 5:
                return Long.bitCount(now.given);
            case 6:
                return Long.bitCount(now.given | now.put);
            case 7:
                return now.manyMarks();
            case 8:
                return pastMany;
            case 9:
                return tape.length();
            case 10:
                return kept;
            default:
                return NONE;
        }
    }

    // ---- digits and sets of digits (bit 1 for 1 and so on) ----

    private static int mostTotal(int sort) {
        return sort == SUM ? MOST_SUM : sort == PRODUCT ? MOST_PRODUCT : sort == SPAN ? MOST_SPAN : 0;
    }

    private static int leastDigit(int set) {
        for (int digit = 1; digit <= TOP_DIGIT; digit++) {
            if ((set >> digit & 1) == 1) {
                return digit;
            }
        }
        return 0;
    }

    private static int greatestDigit(int set) {
        for (int digit = TOP_DIGIT; digit >= 1; digit--) {
            if ((set >> digit & 1) == 1) {
                return digit;
            }
        }
        return 0;
    }

    /** The total of unlike digits, for a span of alike ones too. */
    private static int totalOfSet(int sort, int set) {
        int sum = 0;
        int product = 1;
        int least = 0;
        int greatest = 0;
        for (int digit = 1; digit <= TOP_DIGIT; digit++) {
            if ((set >> digit & 1) == 1) {
                sum += digit;
                product *= digit;
                least = least == 0 ? digit : least;
                greatest = digit;
            }
        }
        return sort == SUM ? sum : sort == PRODUCT ? product : sort == SPAN ? greatest - least : 0;
    }

    // ---- the board with all that is told of it and done in it ----

    private static final class Board {
        int wide;
        int high;
        int top;
        int cages;
        long open;
        long given;
        long put;
        int alike;
        final int[] marks = new int[MOST_CELLS];
        final int[] sort = new int[MOST_CAGES];
        final int[] totals = new int[MOST_CAGES];
        final int[] size = new int[MOST_CAGES];
        final long[] inside = new long[MOST_CAGES];
        final int[][] cells = new int[MOST_CAGES][CAGE_CELLS];

        void copyFrom(Board other) {
            wide = other.wide;
            high = other.high;
            top = other.top;
            cages = other.cages;
            open = other.open;
            given = other.given;
            put = other.put;
            alike = other.alike;
            System.arraycopy(other.marks, 0, marks, 0, MOST_CELLS);
            System.arraycopy(other.sort, 0, sort, 0, MOST_CAGES);
            System.arraycopy(other.totals, 0, totals, 0, MOST_CAGES);
            System.arraycopy(other.size, 0, size, 0, MOST_CAGES);
            System.arraycopy(other.inside, 0, inside, 0, MOST_CAGES);
            for (int k = 0; k < MOST_CAGES; k++) {
                System.arraycopy(other.cells[k], 0, cells[k], 0, CAGE_CELLS);
            }
        }

        /** A board of these sides, all open, without cages. */
        void lay(int newWide, int newHigh, int newTop) {
            wide = newWide;
            high = newHigh;
            top = newTop;
            cages = 0;
            open = (1L << wide * high) - 1;
            given = 0;
            put = 0;
            alike = 0;
            marksByGiven(marks, NONE);
        }

        boolean isTold() {
            return wide > 0;
        }

        boolean isCell(int cell) {
            return cell >= 0 && cell < wide * high && cell < MOST_CELLS;
        }

        boolean isOpen(int cell) {
            return isCell(cell) && (open >> cell & 1) == 1;
        }

        boolean isGiven(int cell) {
            return isCell(cell) && (given >> cell & 1) == 1;
        }

        boolean isPut(int cell) {
            return isCell(cell) && (put >> cell & 1) == 1;
        }

        boolean isDone(int cell) {
            return isGiven(cell) || isPut(cell);
        }

        boolean isDigit(int digit) {
            return digit >= 1 && digit <= top;
        }

        boolean isCage(int cage) {
            return cage >= 0 && cage < cages && cage < MOST_CAGES;
        }

        boolean isAlike(int cage) {
            return (alike >> cage & 1) == 1;
        }

        boolean hasMark(int cell, int digit) {
            return isCell(cell) && isDigit(digit) && (marks[cell] >> digit & 1) == 1;
        }

        /** A cell that is done has its digit as its only mark. */
        int digitOf(int cell) {
            return isCell(cell) ? leastDigit(marks[cell]) : 0;
        }

        int allDigits() {
            return (1 << (top + 1)) - 2;
        }

        void putDigit(int cell, int digit) {
            if (isOpen(cell) && isDigit(digit)) {
                put |= 1L << cell;
                marks[cell] = 1 << digit;
            }
        }

        void giveDigit(int cell, int digit) {
            if (isOpen(cell) && isDigit(digit)) {
                given |= 1L << cell;
                put &= ~(1L << cell);
                marks[cell] = 1 << digit;
            }
        }

        void free(int cell) {
            if (isOpen(cell)) {
                put &= ~(1L << cell);
                marks[cell] = allDigits();
            }
        }

        void block(int cell) {
            if (isOpen(cell)) {
                open &= ~(1L << cell);
                marks[cell] = 0;
            }
        }

        void addCage(int itsSort, int itsTotal, boolean isAlike, long itsCells) {
            if (cages < 0 || cages >= MOST_CAGES) {
                return;
            }
            sort[cages] = itsSort;
            totals[cages] = itsTotal;
            inside[cages] = itsCells;
            alike |= isAlike ? 1 << cages : 0;
            int many = 0;
            for (int cell = 0; cell < MOST_CELLS; cell++) {
                if ((itsCells >> cell & 1) == 1 && many < CAGE_CELLS) {
                    cells[cages][many] = cell;
                    many++;
                }
            }
            size[cages] = many;
            cages++;
        }

        int cagesOf(int cell) {
            int set = 0;
            for (int k = 0; k < cages && k < MOST_CAGES; k++) {
                if (isCell(cell) && (inside[k] >> cell & 1) == 1) {
                    set |= 1 << k;
                }
            }
            return set;
        }

        /** Which of the cage's cells this is. */
        int placeIn(int cage, int cell) {
            if (!isCage(cage) || !isCell(cell) || (inside[cage] >> cell & 1) == 0) {
                return NONE;
            }
            return Long.bitCount(inside[cage] & ((1L << cell) - 1));
        }

        /** Which of the open cells this is. */
        int placeOf(int cell) {
            return isOpen(cell) ? Long.bitCount(open & ((1L << cell) - 1)) : NONE;
        }

        int doneIn(int cage) {
            return isCage(cage) ? Long.bitCount(inside[cage] & (given | put)) : 0;
        }

        int manyMarks() {
            int many = 0;
            for (int cell = 0; cell < MOST_CELLS; cell++) {
                if (isOpen(cell)) {
                    many += Integer.bitCount(marks[cell]);
                }
            }
            return many;
        }

        /** The marks were nothing put or struck, and the freed cell (or NONE) not given. */
        void marksByGiven(int[] into, int freed) {
            for (int cell = 0; cell < MOST_CELLS && cell < into.length; cell++) {
                if (!isOpen(cell)) {
                    into[cell] = 0;
                } else if (isGiven(cell) && cell != freed) {
                    into[cell] = marks[cell];
                } else {
                    into[cell] = allDigits();
                }
            }
        }
    }

    // ---- the tape, and the board that is read from it ----

    private static final class Tape {
        private static final int TOO_LONG = 10000000;
        private static final int UNFIT = 1;
        private static final int WRONG_NUMBER = 2;
        private static final int TOO_MANY = 3;
        private static final int TOO_OPEN = 4;

        private final int[] bytes = new int[MOST_BYTES];
        private int size;
        final Board board = new Board();
        private int at;
        private int fault;
        private int numberPlace;
        private int sort;
        private int sum;

        int length() {
            return size;
        }

        boolean hasRoom(int many) {
            return size + many <= MOST_BYTES;
        }

        /** The number's four bytes, the highest first. */
        void add(int number) {
            for (int shift = 24; shift >= 0; shift -= 8) {
                if (size >= 0 && size < MOST_BYTES) {
                    bytes[size] = number >>> shift & 255;
                    size++;
                }
            }
        }

        boolean cut(int many) {
            if (many < 0 || many > size) {
                return false;
            }
            size = many;
            return true;
        }

        /** The fault of the text, or NONE and the board is as it tells. */
        int readBoard() {
            at = 0;
            fault = NONE;
            readSides();
            for (int parts = 0; parts < MOST_BYTES && fault == NONE && !isEnd(); parts++) {
                if (bytes[at] != ';') {
                    fail(at, UNFIT);
                } else {
                    at++;
                    readPart();
                }
            }
            if (fault == NONE && Long.bitCount(board.open) > MOST_OPEN) {
                fail(size, TOO_OPEN);
            }
            return fault;
        }

        private void readSides() {
            expect("board");
            int wide = readNumber(1, MOST_SIDE);
            int high = readNumber(1, MOST_SIDE);
            expect("top");
            int top = readNumber(2, TOP_DIGIT);
            if (fault == NONE) {
                board.lay(wide, high, top);
            }
        }

        private void readPart() {
            skipBlanks();
            int from = at;
            if (takeWord("block")) {
                readBlocks();
            } else if (takeWord("given")) {
                readGiven();
            } else if (takeWord("cage")) {
                if (hasRoomForCage(from)) {
                    readCage();
                }
            } else if (takeWord("across")) {
                if (hasRoomForCage(from)) {
                    readLine(false);
                }
            } else if (takeWord("down")) {
                if (hasRoomForCage(from)) {
                    readLine(true);
                }
            } else {
                fail(from, UNFIT);
            }
        }

        private boolean hasRoomForCage(int from) {
            if (board.cages >= MOST_CAGES) {
                fail(from, TOO_MANY);
            }
            return fault == NONE;
        }

        private void readBlocks() {
            for (int many = 0; many < MOST_BYTES && fault == NONE; many++) {
                int cell = readOpenCell();
                if (fault == NONE && (board.cagesOf(cell) != 0 || board.isGiven(cell))) {
                    fail(numberPlace, WRONG_NUMBER);
                }
                if (fault == NONE) {
                    board.block(cell);
                }
                if (isPartEnd()) {
                    return;
                }
            }
        }

        private void readGiven() {
            int cell = readOpenCell();
            if (fault == NONE && board.isGiven(cell)) {
                fail(numberPlace, WRONG_NUMBER);
            }
            int digit = readNumber(1, board.top);
            if (fault == NONE) {
                board.giveDigit(cell, digit);
            }
        }

        private void readCage() {
            readTotal();
            boolean alike = takeWord("alike");
            long inside = 0;
            for (int many = 0; many < MOST_BYTES && fault == NONE; many++) {
                if (many >= CAGE_CELLS && isColumn()) {
                    fail(at, TOO_MANY);
                }
                int cell = readOpenCell();
                if (fault == NONE && (inside >> cell & 1) == 1) {
                    fail(numberPlace, WRONG_NUMBER);
                }
                inside |= fault == NONE ? 1L << cell : 0;
                if (isPartEnd()) {
                    break;
                }
            }
            if (fault == NONE) {
                board.addCage(sort, sum, alike, inside);
            }
        }

        private void readLine(boolean down) {
            int cell = readOpenCell();
            readTotal();
            boolean alike = takeWord("alike");
            if (fault == NONE) {
                board.addCage(sort, sum, alike, lineFrom(cell, down));
            }
        }

        /** The cells from this one on up to a block or the end. */
        private long lineFrom(int cell, boolean down) {
            long inside = 0;
            int wide = board.wide;
            if (wide < 1) {
                return inside;
            }
            int stride = down ? wide : 1;
            int end = down ? wide * board.high : cell - cell % wide + wide;
            for (int i = cell; i < end && board.isOpen(i); i += stride) {
                inside |= 1L << i;
            }
            return inside;
        }

        private void readTotal() {
            sum = 0;
            if (takeWord("sum")) {
                sort = SUM;
            } else if (takeWord("product")) {
                sort = PRODUCT;
            } else if (takeWord("span")) {
                sort = SPAN;
            } else if (takeWord("any")) {
                sort = ANY;
                return;
            } else {
                fail(at, UNFIT);
            }
            sum = readNumber(0, mostTotal(sort));
        }

        /** An open cell of the board, or a fault; where its number began is kept for what else may be wrong of it. */
        private int readOpenCell() {
            if (fault != NONE) {
                return NONE;
            }
            if (!isColumn()) {
                fail(at, UNFIT);
                return NONE;
            }
            int column = bytes[at] - 'a';
            at++;
            numberPlace = at;
            if (!isDigitAt(at)) {
                fail(at, UNFIT);
                return NONE;
            }
            int row = readNumber(1, board.high);
            int cell = board.wide * (row - 1) + column;
            if (fault == NONE && !board.isOpen(cell)) {
                fail(numberPlace, WRONG_NUMBER);
            }
            return fault == NONE ? cell : NONE;
        }

        private int readNumber(int least, int most) {
            skipBlanks();
            int from = at;
            if (!isDigitAt(at)) {
                fail(at, UNFIT);
                return least;
            }
            int number = 0;
            for (; at < size && isDigitAt(at); at++) {
                number = Math.min(TOO_LONG, number * 10 + bytes[at] - '0');
            }
            if (number < least || number > most) {
                fail(from, WRONG_NUMBER);
                return least;
            }
            return number;
        }

        private void expect(String word) {
            if (!takeWord(word)) {
                fail(at, UNFIT);
            }
        }

        /** Steps over the word if it is the one that stands there, as far as letters go on. */
        private boolean takeWord(String word) {
            skipBlanks();
            int behind = at + word.length();
            if (fault != NONE || behind > size || isLetterAt(behind)) {
                return false;
            }
            for (int i = 0; i < word.length(); i++) {
                if (bytes[at + i] != word.charAt(i)) {
                    return false;
                }
            }
            at = behind;
            return true;
        }

        private boolean isColumn() {
            skipBlanks();
            return at < size && bytes[at] >= 'a' && bytes[at] < 'a' + board.wide;
        }

        private boolean isPartEnd() {
            return fault != NONE || isEnd() || bytes[at] == ';';
        }

        private boolean isEnd() {
            skipBlanks();
            return at >= size;
        }

        private boolean isLetterAt(int place) {
            return place >= 0 && place < size && bytes[place] >= 'a' && bytes[place] <= 'z';
        }

        private boolean isDigitAt(int place) {
            return place >= 0 && place < size && bytes[place] >= '0' && bytes[place] <= '9';
        }

        private void skipBlanks() {
            while (at < size && bytes[at] == ' ') {
                at++;
            }
        }

        /** Only the first fault stands. */
        private void fail(int place, int kind) {
            if (fault == NONE) {
                fault = 8 * place + kind;
            }
        }
    }

    // ---- a board written as a text ----

    private static final class Writer {
        private static final int ROOM = 1024;

        private final int[] text = new int[ROOM];
        private int length;

        int length() {
            return length;
        }

        int byteAt(int k) {
            return k >= 0 && k < length && k < ROOM ? text[k] : LACKING;
        }

        void writeBoard(Board board) {
            length = 0;
            if (!board.isTold()) {
                return;
            }
            addWord("board");
            addNumber(board.wide);
            addNumber(board.high);
            addWord("top");
            addNumber(board.top);
            addBlocks(board);
            for (int k = 0; k < board.cages && k < MOST_CAGES; k++) {
                addCage(board, k);
            }
            for (int cell = 0; cell < MOST_CELLS; cell++) {
                if (board.isGiven(cell)) {
                    addSign(';');
                    addWord("given");
                    addCell(board, cell);
                    addNumber(board.digitOf(cell));
                }
            }
        }

        private void addBlocks(Board board) {
            boolean first = true;
            for (int cell = 0; cell < MOST_CELLS && board.isCell(cell); cell++) {
                if (!board.isOpen(cell)) {
                    if (first) {
                        addSign(';');
                        addWord("block");
                        first = false;
                    }
                    addCell(board, cell);
                }
            }
        }

        private void addCage(Board board, int k) {
            addSign(';');
            addWord("cage");
            switch (board.sort[k]) {
                case SUM:
                    addWord("sum");
                    break;
                case PRODUCT:
                    addWord("product");
                    break;
                case SPAN:
                    addWord("span");
                    break;
                default:
                    addWord("any");
                    break;
            }
            if (board.sort[k] != ANY) {
                addNumber(board.totals[k]);
            }
            if (board.isAlike(k)) {
                addWord("alike");
            }
            for (int i = 0; i < board.size[k] && i < CAGE_CELLS; i++) {
                addCell(board, board.cells[k][i]);
            }
        }

        private void addCell(Board board, int cell) {
            if (board.wide > 0) {
                addBlank();
                addSign('a' + cell % board.wide);
                addSign('1' + cell / board.wide);
            }
        }

        private void addWord(String word) {
            addBlank();
            for (int i = 0; i < word.length(); i++) {
                addSign(word.charAt(i));
            }
        }

        private void addNumber(int number) {
            addBlank();
            boolean begun = false;
            for (int unit = 1000000; unit >= 1; unit /= 10) {
                begun = begun || number >= unit || unit == 1;
                if (begun) {
                    addSign('0' + number / unit % 10);
                }
            }
        }

        private void addBlank() {
            if (length > 0 && length <= ROOM && text[length - 1] != ';') {
                addSign(' ');
            }
        }

        private void addSign(int sign) {
            if (length >= 0 && length < ROOM) {
                text[length] = sign;
                length++;
            }
        }
    }

    // ---- the rule of one cage ----

    /**
     * What a cage asks, as states that one goes through digit by digit: the set of digits so far (bit 0 for 1),
     * the sum so far, or the exponents of the product so far. At most 128 states, so that a set of them is two longs:
     * a step by a digit moves a whole set of states at once, by one shift.
     */
    private static final class Rule {
        private static final int STATES = 128;
        private static final int MOST_REACHED_SUM = 42;
        private static final int MOST_REACHED_PRODUCT = 117649;
        private static final int MOST_TIMES = 17;
        private static final long[] WITHOUT_LOW = {
            -1L, 0x5555555555555555L, 0x3333333333333333L, 0x0F0F0F0F0F0F0F0FL,
            0x00FF00FF00FF00FFL, 0x0000FFFF0000FFFFL, 0x00000000FFFFFFFFL, -1L
        };
        private static final long[] WITHOUT_HIGH = {
            -1L, 0x5555555555555555L, 0x3333333333333333L, 0x0F0F0F0F0F0F0F0FL,
            0x00FF00FF00FF00FFL, 0x0000FFFF0000FFFFL, 0x00000000FFFFFFFFL, 0L
        };

        private int sort = NONE;
        private boolean alike;
        private int total;
        private int size;
        // By digit: the states that stay, the states that move, and how far.
        private final long[] stayLow = new long[TOP_DIGIT + 1];
        private final long[] stayHigh = new long[TOP_DIGIT + 1];
        private final long[] moveLow = new long[TOP_DIGIT + 1];
        private final long[] moveHigh = new long[TOP_DIGIT + 1];
        private final int[] shift = new int[TOP_DIGIT + 1];
        private long goalLow;
        private long goalHigh;
        // By place: the states that the cells ahead lead to, and those that the cells from there on lead on to the goal.
        private final long[] foreLow = new long[CAGE_CELLS + 1];
        private final long[] foreHigh = new long[CAGE_CELLS + 1];
        private final long[] backLow = new long[CAGE_CELLS + 1];
        private final long[] backHigh = new long[CAGE_CELLS + 1];
        private long ledLow;
        private long ledHigh;

        void fit(int itsSort, boolean isAlike, int itsTotal, int itsSize) {
            if (sort == itsSort && alike == isAlike && total == itsTotal && size == itsSize) {
                return;
            }
            sort = itsSort;
            alike = isAlike;
            total = itsTotal;
            size = Math.max(0, Math.min(CAGE_CELLS, itsSize));
            forget();
            if (isOfSets()) {
                fitSets();
            } else if (sort == SUM) {
                fitSum();
            } else {
                fitProduct();
            }
        }

        int size() {
            return size;
        }

        /** Whether the states are sets of digits. */
        boolean isOfSets() {
            return !alike || sort == SPAN || sort == ANY;
        }

        private void forget() {
            for (int digit = 0; digit <= TOP_DIGIT; digit++) {
                stayLow[digit] = 0;
                stayHigh[digit] = 0;
                moveLow[digit] = 0;
                moveHigh[digit] = 0;
                shift[digit] = 0;
            }
            goalLow = 0;
            goalHigh = 0;
        }

        private void fitSets() {
            for (int digit = 1; digit <= TOP_DIGIT; digit++) {
                moveLow[digit] = WITHOUT_LOW[digit];
                moveHigh[digit] = WITHOUT_HIGH[digit];
                stayLow[digit] = alike ? ~WITHOUT_LOW[digit] : 0;
                stayHigh[digit] = alike ? ~WITHOUT_HIGH[digit] : 0;
                shift[digit] = 1 << (digit - 1);
            }
            for (int state = 1; state < STATES; state++) {
                boolean asMany = alike || Integer.bitCount(state) == size;
                if (asMany && (sort == ANY || totalOfSet(sort, state << 1) == total)) {
                    aim(state);
                }
            }
        }

        private void fitSum() {
            if (total < 0 || total > MOST_REACHED_SUM) {
                return;
            }
            for (int digit = 1; digit <= TOP_DIGIT; digit++) {
                shift[digit] = digit;
                for (int state = 0; state + digit <= total; state++) {
                    allow(digit, state);
                }
            }
            aim(total);
        }

        private void fitProduct() {
            if (total < 1 || total > MOST_REACHED_PRODUCT) {
                return;
            }
            int twos = timesIn(total, 2);
            int threes = timesIn(total, 3);
            int fives = timesIn(total, 5);
            int sevens = timesIn(total, 7);
            int three = twos + 1;
            int five = three * (threes + 1);
            int seven = five * (fives + 1);
            int states = seven * (sevens + 1);
            if (power(2, twos) * power(3, threes) * power(5, fives) * power(7, sevens) != total || states > STATES) {
                return;
            }
            if (three < 1 || five < three || seven < five) {
                return;
            }
            shift[2] = 1;
            shift[3] = three;
            shift[4] = 2;
            shift[5] = five;
            shift[6] = 1 + three;
            shift[7] = seven;
            for (int state = 0; state < states; state++) {
                int product = power(2, state % three) * power(3, state / three % (threes + 1))
                        * power(5, state / five % (fives + 1)) * power(7, state / seven);
                for (int digit = 1; digit <= TOP_DIGIT; digit++) {
                    if (product > 0 && total / product % digit == 0) {
                        allow(digit, state);
                    }
                }
            }
            aim(states - 1);
        }

        private static int timesIn(int number, int prime) {
            int times = 0;
            int rest = number;
            while (times < MOST_TIMES && prime > 1 && rest > 0 && rest % prime == 0) {
                rest /= prime;
                times++;
            }
            return times;
        }

        private static int power(int base, int exponent) {
            int product = 1;
            for (int i = 0; i < exponent; i++) {
                product *= base;
            }
            return product;
        }

        private void allow(int digit, int state) {
            if (state < 64) {
                moveLow[digit] |= 1L << state;
            } else {
                moveHigh[digit] |= 1L << (state - 64);
            }
        }

        private void aim(int state) {
            if (state < 64) {
                goalLow |= 1L << state;
            } else {
                goalHigh |= 1L << (state - 64);
            }
        }

        private static boolean isIn(long low, long high, int state) {
            return ((state < 64 ? low >>> state : high >>> (state - 64)) & 1) == 1;
        }

        /** The state that a digit leads to, or NONE. */
        int after(int state, int digit) {
            if (state < 0 || state >= STATES || digit < 1 || digit > TOP_DIGIT) {
                return NONE;
            }
            long bit = 1L << (state & 63);
            if (((state < 64 ? stayLow[digit] : stayHigh[digit]) & bit) != 0) {
                return state;
            }
            return ((state < 64 ? moveLow[digit] : moveHigh[digit]) & bit) != 0 ? state + shift[digit] : NONE;
        }

        /** The state by the cells with one mark; 0 if all have one, or if all is right: nothing is left to do then. */
        int stateBy(int[] marks, int[] cells) {
            int state = 0;
            int sure = 0;
            if (alike && sort == ANY) {
                return 0;
            }
            for (int i = 0; i < size && i < cells.length; i++) {
                int there = marksAt(marks, cells[i]);
                if (Integer.bitCount(there) == 1) {
                    state = after(state, leastDigit(there));
                    sure++;
                }
            }
            return sure < size && state > 0 ? state : 0;
        }

        private void leadOn(int digit, long low, long high) {
            long a = low & moveLow[digit];
            long b = high & moveHigh[digit];
            int by = shift[digit];
            if (by >= 64) {
                b = a << (by - 64);
                a = 0;
            } else if (by > 0) {
                b = b << by | a >>> (64 - by);
                a = a << by;
            }
            ledLow = a | low & stayLow[digit];
            ledHigh = b | high & stayHigh[digit];
        }

        private void leadBack(int digit, long low, long high) {
            long a = low;
            long b = high;
            int by = shift[digit];
            if (by >= 64) {
                a = b >>> (by - 64);
                b = 0;
            } else if (by > 0) {
                a = a >>> by | b << (64 - by);
                b = b >>> by;
            }
            ledLow = a & moveLow[digit] | low & stayLow[digit];
            ledHigh = b & moveHigh[digit] | high & stayHigh[digit];
        }

        /** Looks through all ways by these marks at once; whether there is one. */
        boolean weigh(int[] marks, int[] cells) {
            foreLow[0] = 1;
            foreHigh[0] = 0;
            for (int i = 0; i < size && i < cells.length; i++) {
                int there = marksAt(marks, cells[i]);
                foreLow[i + 1] = 0;
                foreHigh[i + 1] = 0;
                for (int digit = 1; digit <= TOP_DIGIT; digit++) {
                    if ((there >> digit & 1) == 1) {
                        leadOn(digit, foreLow[i], foreHigh[i]);
                        foreLow[i + 1] |= ledLow;
                        foreHigh[i + 1] |= ledHigh;
                    }
                }
            }
            backLow[size] = goalLow;
            backHigh[size] = goalHigh;
            for (int i = Math.min(size, cells.length) - 1; i >= 0; i--) {
                int there = marksAt(marks, cells[i]);
                backLow[i] = 0;
                backHigh[i] = 0;
                for (int digit = 1; digit <= TOP_DIGIT; digit++) {
                    if ((there >> digit & 1) == 1) {
                        leadBack(digit, backLow[i + 1], backHigh[i + 1]);
                        backLow[i] |= ledLow;
                        backHigh[i] |= ledHigh;
                    }
                }
            }
            return (backLow[0] & 1) == 1;
        }

        private static int marksAt(int[] marks, int cell) {
            return cell >= 0 && cell < marks.length ? marks[cell] : 0;
        }

        /** After weigh: which of the marks the cell at that place has in some way. */
        int digitsAt(int place, int marks) {
            int digits = 0;
            for (int digit = 1; digit <= TOP_DIGIT && place >= 0 && place < CAGE_CELLS; digit++) {
                if ((marks >> digit & 1) == 1) {
                    leadOn(digit, foreLow[place], foreHigh[place]);
                    if ((ledLow & backLow[place + 1] | ledHigh & backHigh[place + 1]) != 0) {
                        digits |= 1 << digit;
                    }
                }
            }
            return digits;
        }

        /** After weigh: whether the cells from that place on can end well from that state. */
        boolean canEnd(int place, int state) {
            return place >= 0 && place <= CAGE_CELLS && state >= 0 && state < STATES
                    && isIn(backLow[place], backHigh[place], state);
        }

        /** After weigh: whether some way ends in that state. */
        boolean isReached(int state) {
            return state >= 0 && state < STATES
                    && isIn(foreLow[size] & goalLow, foreHigh[size] & goalHigh, state);
        }
    }

    private static final class Rules {
        private final Rule[] each = new Rule[MOST_CAGES];
        private final Rule other = new Rule();

        Rules() {
            for (int k = 0; k < MOST_CAGES; k++) {
                each[k] = new Rule();
            }
        }

        /** The rule of a cage (0 to 11) as the board tells it. */
        Rule ready(Board board, int cage) {
            if (cage < 0 || cage >= MOST_CAGES) {
                return other;
            }
            Rule rule = each[cage];
            rule.fit(board.sort[cage], board.isAlike(cage), board.totals[cage], board.size[cage]);
            return rule;
        }

        /** The rule of a cage were any total right. */
        Rule spare(Board board, int cage) {
            if (cage >= 0 && cage < MOST_CAGES) {
                other.fit(ANY, board.isAlike(cage), 0, board.size[cage]);
            }
            return other;
        }
    }

    // ---- the ways of one cage, counted ----

    private static final class Ways {
        private final int[] bySet = new int[DIGIT_SETS];
        private final int[] nextBySet = new int[DIGIT_SETS];

        /** Counts the ways of a cage by their sets of digits. */
        void tally(Rule rule, int[] marks, int[] cells) {
            boolean some = rule.weigh(marks, cells);
            for (int set = 0; set < DIGIT_SETS; set++) {
                bySet[set] = 0;
            }
            if (!some) {
                return;
            }
            if (rule.isOfSets()) {
                tallyBySets(rule, marks, cells);
            } else {
                walk(this, rule, marks, cells, 0, 0, 0);
            }
        }

        private void tallyBySets(Rule rule, int[] marks, int[] cells) {
            bySet[0] = 1;
            for (int i = 0; i < rule.size() && i < cells.length; i++) {
                int there = Rule.marksAt(marks, cells[i]);
                for (int set = 0; set < DIGIT_SETS; set++) {
                    nextBySet[set] = 0;
                }
                for (int set = 0; set < DIGIT_SETS; set++) {
                    for (int digit = 1; digit <= TOP_DIGIT && bySet[set] > 0; digit++) {
                        int after = (there >> digit & 1) == 1 ? rule.after(set, digit) : NONE;
                        if (after >= 0 && after < DIGIT_SETS) {
                            nextBySet[after] += bySet[set];
                        }
                    }
                }
                System.arraycopy(nextBySet, 0, bySet, 0, DIGIT_SETS);
            }
            for (int set = 0; set < DIGIT_SETS; set++) {
                bySet[set] = rule.isReached(set) ? bySet[set] : 0;
            }
        }

        /** Way by way, from a place on; goes only where an end can be reached. */
        private static void walk(Ways ways, Rule rule, int[] marks, int[] cells, int place, int state, int set) {
            if (place >= rule.size() || place >= cells.length) {
                ways.bySet[set & (DIGIT_SETS - 1)]++;
                return;
            }
            int there = Rule.marksAt(marks, cells[place]);
            for (int digit = 1; digit <= TOP_DIGIT; digit++) {
                if ((there >> digit & 1) == 1) {
                    int after = rule.after(state, digit);
                    if (rule.canEnd(place + 1, after)) {
                        walk(ways, rule, marks, cells, place + 1, after, set | 1 << (digit - 1));
                    }
                }
            }
        }

        int many() {
            int many = 0;
            for (int set = 0; set < DIGIT_SETS; set++) {
                many += bySet[set];
            }
            return many;
        }

        int manyWith(int digit) {
            int many = 0;
            for (int set = 0; set < DIGIT_SETS; set++) {
                if ((set << 1 >> digit & 1) == 1) {
                    many += bySet[set];
                }
            }
            return many;
        }

        /** The digits that are in each way. */
        int inAll() {
            int digits = NONE;
            for (int set = 0; set < DIGIT_SETS; set++) {
                if (bySet[set] > 0) {
                    digits &= set << 1;
                }
            }
            return digits == NONE ? 0 : digits;
        }

        int manySets() {
            int many = 0;
            for (int set = 0; set < DIGIT_SETS; set++) {
                if (bySet[set] > 0) {
                    many++;
                }
            }
            return many;
        }

        int setAt(int k) {
            int many = 0;
            for (int set = 0; set < DIGIT_SETS; set++) {
                if (bySet[set] > 0) {
                    if (many == k) {
                        return set << 1;
                    }
                    many++;
                }
            }
            return LACKING;
        }
    }

    // ---- steps of logic ----

    private static final class Logic {
        static final int NO_STEP = 0;
        private static final int ALONE = 1;
        private static final int WAYS = 2;
        private static final int MUST = 3;
        private static final int TWINS = 4;
        // Each step puts a digit in a cell or strikes a mark.
        private static final int MOST_STEPS = MOST_OPEN * (TOP_DIGIT + 1);

        private final Rules rules = new Rules();
        private final Ways ways = new Ways();
        private final int[][] could = new int[MOST_CAGES][CAGE_CELLS];
        int cageWithoutWay = LACKING;
        int cellWithoutMark = LACKING;
        int kind;
        int cage;
        int cell;
        int digit;
        private int twin;
        int steps;
        int kinds;

        boolean isBroken() {
            return cageWithoutWay != LACKING || cellWithoutMark != LACKING;
        }

        /** What each cell could be by each cage, and whether the board is broken. */
        void study(Board board) {
            cageWithoutWay = LACKING;
            cellWithoutMark = LACKING;
            for (int k = Math.min(board.cages, MOST_CAGES) - 1; k >= 0; k--) {
                Rule rule = rules.ready(board, k);
                if (!rule.weigh(board.marks, board.cells[k])) {
                    cageWithoutWay = k;
                }
                for (int i = 0; i < board.size[k]; i++) {
                    could[k][i] = rule.digitsAt(i, board.marks[board.cells[k][i]]);
                }
            }
            for (int i = MOST_CELLS - 1; i >= 0; i--) {
                if (board.isOpen(i) && board.marks[i] == 0) {
                    cellWithoutMark = i;
                }
            }
        }

        /** The next step, or none. */
        void find(Board board) {
            study(board);
            kind = NO_STEP;
            if (isBroken() || findAlone(board) || findWays(board)) {
                return;
            }
            for (int k = 0; k < board.cages; k++) {
                if (!board.isAlike(k) && findMust(board, k)) {
                    return;
                }
            }
            for (int k = 0; k < board.cages; k++) {
                if (!board.isAlike(k) && findTwins(board, k)) {
                    return;
                }
            }
        }

        private boolean found(int itsKind, int itsCage, int itsCell, int itsDigit) {
            kind = itsKind;
            cage = itsCage;
            cell = itsCell;
            digit = itsDigit;
            return true;
        }

        private boolean findAlone(Board board) {
            for (int i = 0; i < MOST_CELLS; i++) {
                if (board.isOpen(i) && !board.isDone(i) && Integer.bitCount(board.marks[i]) == 1) {
                    return found(ALONE, LACKING, i, leastDigit(board.marks[i]));
                }
            }
            return false;
        }

        private boolean findWays(Board board) {
            for (int k = 0; k < board.cages; k++) {
                for (int i = 0; i < board.size[k]; i++) {
                    int there = board.cells[k][i];
                    int never = board.marks[there] & ~could[k][i];
                    if (never != 0) {
                        return found(WAYS, k, there, leastDigit(never));
                    }
                }
            }
            return false;
        }

        private boolean findMust(Board board, int k) {
            int once = 0;
            int more = 0;
            int done = 0;
            for (int i = 0; i < board.size[k]; i++) {
                int there = board.cells[k][i];
                if (board.isDone(there)) {
                    done |= board.marks[there];
                } else {
                    more |= once & board.marks[there];
                    once |= board.marks[there];
                }
            }
            int lone = once & ~more & ~done;
            if (lone == 0) {
                return false;
            }
            ways.tally(rules.ready(board, k), board.marks, board.cells[k]);
            lone &= ways.inAll();
            for (int i = 1; i <= TOP_DIGIT; i++) {
                if ((lone >> i & 1) == 1 && findHolder(board, k, i)) {
                    return true;
                }
            }
            return false;
        }

        private boolean findHolder(Board board, int k, int itsDigit) {
            for (int i = 0; i < board.size[k]; i++) {
                int there = board.cells[k][i];
                if (board.hasMark(there, itsDigit) && !board.isDone(there)
                        && Integer.bitCount(board.marks[there]) > 1) {
                    return found(MUST, k, there, itsDigit);
                }
            }
            return false;
        }

        private boolean findTwins(Board board, int k) {
            for (int i = 0; i < board.size[k]; i++) {
                int one = board.cells[k][i];
                if (board.isDone(one) || Integer.bitCount(board.marks[one]) != 2) {
                    continue;
                }
                for (int j = i + 1; j < board.size[k]; j++) {
                    int other = board.cells[k][j];
                    if (!board.isDone(other) && board.marks[other] == board.marks[one]
                            && isMarkedElsewhere(board, k, one, other)) {
                        twin = other;
                        return found(TWINS, k, one, leastDigit(board.marks[one]));
                    }
                }
            }
            return false;
        }

        private boolean isMarkedElsewhere(Board board, int k, int one, int other) {
            for (int i = 0; i < board.size[k]; i++) {
                int there = board.cells[k][i];
                if (there != one && there != other && (board.marks[there] & board.marks[one]) != 0) {
                    return true;
                }
            }
            return false;
        }

        /** Does the step that was found. */
        void apply(Board board) {
            if (!board.isOpen(cell)) {
                return;
            }
            switch (kind) {
                case ALONE:
                case MUST:
                    board.putDigit(cell, digit);
                    break;
                case WAYS:
                    board.marks[cell] &= ~(1 << digit);
                    break;
                case TWINS:
                    strikeTwins(board);
                    break;
                default:
                    break;
            }
        }

        private void strikeTwins(Board board) {
            int both = board.marks[cell];
            for (int i = 0; board.isCage(cage) && i < board.size[cage]; i++) {
                int there = board.cells[cage][i];
                if (there != cell && there != twin) {
                    board.marks[there] &= ~both;
                }
            }
        }

        /** From the step that was found on: all that can be done, counted. */
        void applyAll(Board board) {
            steps = 0;
            kinds = 0;
            while (kind != NO_STEP && steps < MOST_STEPS) {
                steps++;
                kinds += kind;
                apply(board);
                find(board);
            }
        }
    }

    // ---- solutions ----

    /**
     * Looks for solutions by trying digits; behind each one all marks are struck that no way of a cage has by then.
     * Whether the rest can be solved depends on which cells have one mark and on the states of the cages by these:
     * rests that failed are remembered.
     */
    private static final class Search {
        private static final int SLOTS = 4096;
        private static final int STATE_BITS = 7;
        private static final int LOW_CAGES = 9;
        private static final int PRIME = 32749;
        // Each round but the first follows on a mark that was struck.
        private static final int MOST_ROUNDS = MOST_OPEN * TOP_DIGIT + 2;

        private final Rules rules = new Rules();
        private int places;
        private final int[] cells = new int[MOST_OPEN];
        // By cell: the cages that bind it, as bits.
        private final int[] binding = new int[MOST_CELLS];
        private int allBinding;
        // Whether the cages ask no more than unlike digits, so that all digits are worth the same.
        private boolean onlyUnlike;
        // By depth: the marks when so many digits were tried.
        private final int[][] rows = new int[MOST_OPEN + 1][MOST_CELLS];
        private final int[][] equations = new int[MOST_CAGES][MOST_OPEN + 1];
        private final int[][] solutions = new int[MOST_SOLUTIONS][MOST_OPEN];
        private int most;
        private int found;
        private long looks;
        private final long[] failedLow = new long[SLOTS];
        private final long[] failedHigh = new long[SLOTS];

        /** How many solutions the board has by these marks, most at the most; the first ones are kept in order. */
        int look(Board board, int[] marks, int itsMost) {
            found = 0;
            most = Math.max(1, Math.min(MOST_SOLUTIONS, itsMost));
            if (begin(board, marks)) {
                gather(this, board, 0);
            }
            return found;
        }

        /** Whether the board has a solution by these marks. */
        boolean canSolve(Board board, int[] marks) {
            found = 0;
            return begin(board, marks) && isSolvable(this, board, 0);
        }

        private boolean begin(Board board, int[] marks) {
            looks++;
            for (int k = 0; k < board.cages; k++) {
                rules.ready(board, k);
            }
            layOut(board);
            System.arraycopy(marks, 0, rows[0], 0, Math.min(MOST_CELLS, marks.length));
            for (int place = 0; place < places; place++) {
                if (rows[0][cells[place]] == 0) {
                    return false;
                }
            }
            return settle(board, 0, allBinding) && sumsFit(board);
        }

        private void layOut(Board board) {
            allBinding = 0;
            onlyUnlike = true;
            for (int k = 0; k < board.cages; k++) {
                allBinding |= board.sort[k] == ANY && board.isAlike(k) ? 0 : 1 << k;
                onlyUnlike = onlyUnlike && board.sort[k] == ANY;
            }
            places = 0;
            for (int cell = 0; cell < MOST_CELLS; cell++) {
                binding[cell] = board.cagesOf(cell) & allBinding;
                if (board.isOpen(cell) && places < MOST_OPEN) {
                    cells[places] = cell;
                    places++;
                }
            }
        }

        /** Strikes what no way has, in these cages and all that this leads on to; false if some cage has no way. */
        private boolean settle(Board board, int depth, int cages) {
            int[] marks = rows[depth];
            int unsettled = cages;
            for (int round = 0; unsettled != 0 && round < MOST_ROUNDS; round++) {
                for (int k = 0; k < board.cages; k++) {
                    if ((unsettled >> k & 1) == 0) {
                        continue;
                    }
                    unsettled &= ~(1 << k);
                    Rule rule = rules.each[k];
                    if (!rule.weigh(marks, board.cells[k])) {
                        return false;
                    }
                    for (int i = 0; i < board.size[k]; i++) {
                        int cell = board.cells[k][i];
                        int left = rule.digitsAt(i, marks[cell]);
                        if (left != marks[cell]) {
                            marks[cell] = left;
                            unsettled |= binding[cell] & ~(1 << k);
                        }
                    }
                }
            }
            return true;
        }

        /**
         * Whether the sums, as equations, bear one another: rows and columns of other sums take long to refute by
         * tries. They are taken modulo a prime, so that nothing overflows: what fails so fails outright.
         */
        private boolean sumsFit(Board board) {
            int many = 0;
            for (int k = 0; k < board.cages && many < MOST_CAGES; k++) {
                if (board.sort[k] == SUM) {
                    layEquation(board, k, equations[many]);
                    many++;
                }
            }
            int rank = 0;
            for (int place = 0; place < places && rank < many; place++) {
                if (bringUp(place, rank, many)) {
                    for (int row = rank + 1; row < many; row++) {
                        reduce(equations[row], equations[rank], place);
                    }
                    rank++;
                }
            }
            for (int row = rank; row < many; row++) {
                if (equations[row][MOST_OPEN] != 0) {
                    return false;
                }
            }
            return true;
        }

        private void layEquation(Board board, int k, int[] equation) {
            int rest = board.totals[k];
            for (int place = 0; place < MOST_OPEN; place++) {
                equation[place] = 0;
                if (place < places && (board.inside[k] >> cells[place] & 1) == 1) {
                    int marks = rows[0][cells[place]];
                    boolean sure = Integer.bitCount(marks) == 1;
                    equation[place] = sure ? 0 : 1;
                    rest -= sure ? leastDigit(marks) : 0;
                }
            }
            equation[MOST_OPEN] = Math.floorMod(rest, PRIME);
        }

        /** Exchanges the equation of that rank for one that has the place; false if none has it. */
        private boolean bringUp(int place, int rank, int many) {
            for (int row = rank; row < many; row++) {
                if (equations[row][place] != 0) {
                    for (int i = 0; i <= MOST_OPEN; i++) {
                        int kept = equations[rank][i];
                        equations[rank][i] = equations[row][i];
                        equations[row][i] = kept;
                    }
                    return true;
                }
            }
            return false;
        }

        private static void reduce(int[] equation, int[] by, int place) {
            int times = equation[place];
            int scale = by[place];
            for (int i = 0; i <= MOST_OPEN && times != 0; i++) {
                equation[i] = Math.floorMod(equation[i] * scale - by[i] * times, PRIME);
            }
        }

        /** Keeps the solutions by the marks at that depth, in order. */
        private static void gather(Search search, Board board, int depth) {
            if (!isSolvable(search, board, depth)) {
                return;
            }
            int cell = search.firstUnsure(depth);
            if (cell == NONE || depth >= MOST_OPEN) {
                search.store(depth);
                return;
            }
            for (int digit = 1; digit <= TOP_DIGIT && search.found < search.most; digit++) {
                if (search.enter(depth, cell, digit) && search.settle(board, depth + 1, search.binding[cell])) {
                    gather(search, board, depth + 1);
                }
            }
        }

        private static boolean isSolvable(Search search, Board board, int depth) {
            int cell = search.tightest(depth);
            if (cell == NONE || depth >= MOST_OPEN) {
                return true;
            }
            long low = search.lowKey(board, depth);
            long high = search.highKey(board, depth);
            int slot = slotOf(low, high);
            if (search.failedLow[slot] == low && search.failedHigh[slot] == high) {
                return false;
            }
            for (int digit = 1; digit <= TOP_DIGIT; digit++) {
                if (!search.hasFailedAlike(depth, digit) && search.enter(depth, cell, digit)
                        && search.settle(board, depth + 1, search.binding[cell])
                        && isSolvable(search, board, depth + 1)) {
                    return true;
                }
            }
            search.failedLow[slot] = low;
            search.failedHigh[slot] = high;
            return false;
        }

        /** Whether a lesser digit, tried ahead of this one, could be exchanged for it in all that is left to do. */
        private boolean hasFailedAlike(int depth, int digit) {
            for (int lesser = 1; onlyUnlike && lesser < digit; lesser++) {
                if (areMarkedAlike(depth, lesser, digit)) {
                    return true;
                }
            }
            return false;
        }

        private boolean areMarkedAlike(int depth, int one, int other) {
            for (int place = 0; place < places; place++) {
                int marks = rows[depth][cells[place]];
                if (Integer.bitCount(marks) > 1 && binding[cells[place]] != 0
                        && (marks >> one & 1) != (marks >> other & 1)) {
                    return false;
                }
            }
            return true;
        }

        /** One deeper the cell has that digit alone; false if it is none of its marks. */
        private boolean enter(int depth, int cell, int digit) {
            if ((rows[depth][cell] >> digit & 1) == 0) {
                return false;
            }
            System.arraycopy(rows[depth], 0, rows[depth + 1], 0, MOST_CELLS);
            rows[depth + 1][cell] = 1 << digit;
            return true;
        }

        /** The first cell with more than one mark. */
        private int firstUnsure(int depth) {
            for (int place = 0; place < places; place++) {
                if (Integer.bitCount(rows[depth][cells[place]]) > 1) {
                    return cells[place];
                }
            }
            return NONE;
        }

        /** The cell with the fewest marks for the cages that bind it, of those with more than one. */
        private int tightest(int depth) {
            int best = NONE;
            int bestMarks = 0;
            int bestCages = 0;
            for (int place = 0; place < places; place++) {
                int marks = Integer.bitCount(rows[depth][cells[place]]);
                int cages = Integer.bitCount(binding[cells[place]]);
                if (marks > 1 && cages > 0 && (best == NONE || marks * bestCages < bestMarks * cages)) {
                    best = cells[place];
                    bestMarks = marks;
                    bestCages = cages;
                }
            }
            return best;
        }

        private void store(int depth) {
            if (found >= 0 && found < MOST_SOLUTIONS) {
                for (int place = 0; place < places; place++) {
                    solutions[found][place] = leastDigit(rows[depth][cells[place]]);
                }
                found++;
            }
        }

        private long lowKey(Board board, int depth) {
            long key = 0;
            for (int k = 0; k < board.cages && k < LOW_CAGES; k++) {
                key = key << STATE_BITS | rules.each[k].stateBy(rows[depth], board.cells[k]);
            }
            return key;
        }

        /** With the number of the look, so that no other look's failures are taken for this one's. */
        private long highKey(Board board, int depth) {
            long key = looks;
            for (int place = 0; place < MOST_OPEN; place++) {
                boolean sure = place < places && Integer.bitCount(rows[depth][cells[place]]) == 1;
                key = key << 1 | (sure ? 1 : 0);
            }
            for (int k = LOW_CAGES; k < MOST_CAGES; k++) {
                key = key << STATE_BITS | (k < board.cages ? rules.each[k].stateBy(rows[depth], board.cells[k]) : 0);
            }
            return key;
        }

        private static int slotOf(long low, long high) {
            long mixed = (low ^ high * 0x9E3779B97F4A7C15L) * 0xBF58476D1CE4E5B9L;
            mixed ^= mixed >>> 32;
            return (int) (mixed * 0x94D049BB133111EBL >>> 40) & (SLOTS - 1);
        }

        int places() {
            return places;
        }

        int cellAt(int place) {
            return place >= 0 && place < places && place < MOST_OPEN ? cells[place] : NONE;
        }

        int digitAt(int k, int place) {
            return k >= 0 && k < found && k < MOST_SOLUTIONS && place >= 0 && place < MOST_OPEN
                    ? solutions[k][place] : 0;
        }

        /** The first place in which the first two solutions are unlike. */
        int firstUnlike() {
            for (int place = 0; place < places; place++) {
                if (digitAt(0, place) != digitAt(1, place)) {
                    return place;
                }
            }
            return NONE;
        }
    }

    // ---- digits drawn for a board ----

    private static final class Maker {
        private static final int MOST_DRAWS = 2000;
        private static final int MOST_TRIES = MOST_DRAWS * (TOP_DIGIT + 2);

        private int seed;
        private int draws;
        private int places;
        private final int[] cells = new int[MOST_OPEN];
        // By place: the places ahead that may not have the same digit, as bits.
        private final int[] unlike = new int[MOST_OPEN];
        private final int[] drawn = new int[MOST_OPEN];
        private final int[] tried = new int[MOST_OPEN];
        private final int[] digits = new int[MOST_OPEN];

        /** Draws digits for all open cells; false if none are found so. */
        boolean drawDigits(Board board, int itsSeed) {
            seed = itsSeed;
            draws = 0;
            layOut(board);
            int place = 0;
            boolean come = true;
            for (int tries = 0; tries < MOST_TRIES && place < places; tries++) {
                if (come && !draw(place, board.top)) {
                    return false;
                }
                come = tryNext(place, board.top);
                place += come ? 1 : -1;
                if (place < 0) {
                    return false;
                }
            }
            return place >= places;
        }

        private void layOut(Board board) {
            places = 0;
            for (int cell = 0; cell < MOST_CELLS; cell++) {
                if (board.isOpen(cell) && places < MOST_OPEN) {
                    cells[places] = cell;
                    unlike[places] = unlikeAhead(board, cell);
                    places++;
                }
            }
        }

        private int unlikeAhead(Board board, int cell) {
            int set = 0;
            for (int ahead = 0; ahead < places; ahead++) {
                if ((board.cagesOf(cell) & board.cagesOf(cells[ahead]) & ~board.alike) != 0) {
                    set |= 1 << ahead;
                }
            }
            return set;
        }

        private boolean draw(int place, int top) {
            if (draws >= MOST_DRAWS || top < 1) {
                return false;
            }
            draws++;
            seed = seed * 1103515245 + 12345;
            drawn[place] = (seed >>> 16) % top;
            tried[place] = 0;
            return true;
        }

        /** The next digit that may stand there, if there is one. */
        private boolean tryNext(int place, int top) {
            while (tried[place] < top && top > 0) {
                int digit = (drawn[place] + tried[place]) % top + 1;
                tried[place]++;
                if (mayStand(place, digit)) {
                    digits[place] = digit;
                    return true;
                }
            }
            return false;
        }

        private boolean mayStand(int place, int digit) {
            for (int ahead = 0; ahead < place; ahead++) {
                if ((unlike[place] >> ahead & 1) == 1 && digits[ahead] == digit) {
                    return false;
                }
            }
            return true;
        }

        int digitAt(int place) {
            return place >= 0 && place < MOST_OPEN ? digits[place] : 0;
        }

        /** Each cage is told the total of the digits; nothing is given or put. */
        void tellTotals(Board board) {
            board.given = 0;
            board.put = 0;
            board.marksByGiven(board.marks, NONE);
            for (int k = 0; k < board.cages; k++) {
                int sum = 0;
                int product = 1;
                int set = 0;
                for (int i = 0; i < board.size[k]; i++) {
                    int digit = digitAt(board.placeOf(board.cells[k][i]));
                    sum += digit;
                    product *= digit;
                    set |= 1 << digit;
                }
                int sort = board.sort[k];
                board.totals[k] = sort == SUM ? sum : sort == PRODUCT ? product : totalOfSet(sort, set);
            }
        }
    }
}
