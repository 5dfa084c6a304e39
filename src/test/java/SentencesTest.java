/**
 * The promises of the document: a test for each sentence that names a boundary case (too small, too large, empty,
 * full, a refused call).
 */
public final class SentencesTest extends Answers {
    public static void main(String[] args) {
        tape();
        putAndLift();
        strikeAndGive();
        totals();
        steps();
        runs();
        makes();
        undos();
        shelves();
        cells();
        cages();
        waysOfCages();
        stepsForeseen();
        solutions();
        byAllSolutions();
        byTheGiven();
        cagesCompared();
        combos();
        brokenBoards();
        ranges();
        letters();
        counts();
        end();
    }

    // ---- promises 1 to 4 ----

    private static void tape() {
        test("1: No BOARD", SentencesTest::noBoard);
        test("2: Twenty bytes come behind the TAPE: how many it has", SentencesTest::twentyBytes);
        test("2: of each number the highest first", SentencesTest::highestFirst);
        test("2: NONE, and none comes, if it would have more than 400", SentencesTest::fullTape);
        test("3: The TAPE has its first n bytes alone: n", SentencesTest::firstBytes);
        test("3: NONE, and nothing happens, if it has not so many, or n is below 0", SentencesTest::refusedEnds);
        test("4: The TAPE, which is empty then", SentencesTest::emptyTape);
        test("4: tells a BOARD in place of the one there was", SentencesTest::anotherBoard);
        test("4: (nothing can be UNDONE; SHELVES stay)", SentencesTest::toldAndUndone);
        test("4: how many CAGES", SentencesTest::toldCages);
        test("4: -2 - its FAULT, and but for the TAPE nothing happens", SentencesTest::failedTell);
    }

    private static void noBoard() {
        for (int what = 0; what <= 10; what++) {
            due("count(" + what + ")", new CrossSums().count(what), 0);
        }
        for (int a = -2; a <= 12; a++) {
            CrossSums x = new CrossSums();
            int n = a;
            refused(x, "put(" + n + ", 1)", () -> x.put(n, 1), -1);
            refused(x, "lift(" + n + ")", () -> x.lift(n), -1);
            refused(x, "strike(" + n + ", 1)", () -> x.strike(n, 1), -1);
            refused(x, "give(" + n + ", 1)", () -> x.give(n, 1), -1);
            refused(x, "total(" + n + ", 1)", () -> x.total(n, 1), -1);
            refused(x, "make(" + n + ")", () -> x.make(n), -1);
            due("cell(" + n + ", 0)", x.cell(n, 0), -1);
            due("cage(" + n + ", 0)", x.cage(n, 0), -1);
            due("has(" + n + ", 1)", x.has(n, 1), -1);
            due("could(" + n + ", 0)", x.could(n, 0), -1);
            due("must(" + n + ")", x.must(n), -1);
            due("sets(" + n + ", -1)", x.sets(n, -1), -1);
            due("next(" + n + ")", x.next(n), -1);
            due("weight(" + n + ")", x.weight(n), -1);
            due("solve(" + n + ")", x.solve(n), -1);
            due("solution(0, " + n + ")", x.solution(0, n), -1);
            due("agree(" + n + ")", x.agree(n), -1);
            due("hint(" + n + ")", x.hint(n), -1);
            due("wrong(" + n + ")", x.wrong(n), -1);
            due("shared(0, " + n + ")", x.shared(0, n), -1);
            due("combos(0, 1, " + n + ")", x.combos(0, 1, n), -1);
            due("broken(" + n + ")", x.broken(n), -1);
            due("range(" + n + ", true)", x.range(n, true), -1);
            due("letter(" + n + ")", x.letter(n), n < -1 ? -1 : n == -1 ? 0 : -2);
        }
        CrossSums x = new CrossSums();
        refused(x, "step()", () -> x.step(), -1);
        refused(x, "run()", () -> x.run(), -1);
        refused(x, "undo()", () -> x.undo(), -1);
        refused(x, "back(0)", () -> x.back(0), -2);
        refused(x, "back(1)", () -> x.back(1), -2);
        due("idle()", x.idle(), -1);
    }

    private static void twentyBytes() {
        CrossSums x = new CrossSums();
        for (int many = 20; many <= 400; many += 20) {
            due("feed", x.feed(0, -1, MIN, MAX, many), many);
            due("count(9)", x.count(9), many);
        }
    }

    private static void highestFirst() {
        CrossSums x = new CrossSums();
        x.feed(0x626f6172, 0x64203120, 0x3120746f, 0x70203200, 0);
        x.end(15);
        due("tell of board 1 1 top 2", x.tell(), 0);
        // The highest byte is above 127: no sign of the number may come in.
        int[] numbers = {0x626f6172, 0x64203120, 0x3120746f, 0x702032f0};
        x.feed(numbers[0], numbers[1], numbers[2], numbers[3], 0x80ffffff);
        x.end(16);
        due("tell with byte 240", x.tell(), -2 - (8 * 15 + 1));
        x.feed(0x80000000, 0, 0, 0, 0);
        x.end(1);
        due("tell of byte 128", x.tell(), -3);
        x.feed(0x20202020, 0x20202020, 0x20202020, 0x20202020, 0x20202062);
        due("feed behind twenty", x.feed(0x6f617264, 0x20312031, 0x20746f70, 0x20322020, 0x20202020), 40);
        due("tell of both", x.tell(), 0);
    }

    private static void fullTape() {
        CrossSums x = new CrossSums();
        for (int i = 0; i < 20; i++) {
            x.feed(0x20202020, 0x20202020, 0x20202020, 0x20202020, 0x20202020);
        }
        refused(x, "feed behind 400", () -> x.feed(0, 0, 0, 0, 0), -1);
        due("end(381)", x.end(381), 381);
        refused(x, "feed behind 381", () -> x.feed(0, 0, 0, 0, 0), -1);
        due("end(380)", x.end(380), 380);
        due("feed behind 380", x.feed(0x626f6172, 0x64203120, 0x3120746f, 0x70203220, 0x20202020), 400);
        due("tell", x.tell(), 0);
        CrossSums blanks = new CrossSums();
        for (int i = 0; i < 21; i++) {
            blanks.feed(0x20202020, 0x20202020, 0x20202020, 0x20202020, 0x20202020);
        }
        due("tell of 400 blanks", blanks.tell(), -2 - (8 * 400 + 1));
    }

    private static void firstBytes() {
        CrossSums x = new CrossSums();
        due("end(0) of none", x.end(0), 0);
        feed(x, "board 1 1 top 2;cage any a1");
        due("end(27)", x.end(27), 27);
        due("count(9)", x.count(9), 27);
        due("end(15)", x.end(15), 15);
        due("count(9)", x.count(9), 15);
        due("tell", x.tell(), 0);
        feed(x, "board 1 1 top 2");
        due("end(0)", x.end(0), 0);
        due("count(9)", x.count(9), 0);
        due("tell of none", x.tell(), -3);
    }

    private static void refusedEnds() {
        CrossSums x = new CrossSums();
        refused(x, "end(1) of none", () -> x.end(1), -1);
        refused(x, "end(-1) of none", () -> x.end(-1), -1);
        feed(x, "board 1 1 top 2");
        int[] wrong = {16, 20, 400, 401, MAX, -1, -15, MIN};
        for (int n : wrong) {
            refused(x, "end(" + n + ")", () -> x.end(n), -1);
        }
        due("tell", x.tell(), 0);
    }

    private static void emptyTape() {
        CrossSums x = new CrossSums();
        feed(x, "board 1 1 top 2");
        x.tell();
        due("count(9) behind a board", x.count(9), 0);
        feed(x, "bard");
        x.tell();
        due("count(9) behind a fault", x.count(9), 0);
        due("tell of none", x.tell(), -3);
    }

    private static void anotherBoard() {
        CrossSums x = told(twelveCages() + ";block c3;given a1 1");
        x.put(1, 2);
        x.strike(2, 1);
        tell(x, "board 4 4 top 7");
        due("text", text(x), "board 4 4 top 7");
        int[] counts = {4, 4, 7, 16, 0, 0, 0, 112};
        for (int what = 0; what < counts.length; what++) {
            due("count(" + what + ")", x.count(what), counts[what]);
        }
        due("cell(0, 4)", x.cell(0, 4), 0);
        tell(x, "board 1 1 top 2;cage any a1");
        due("cage(0, 2)", x.cage(0, 2), 1);
        due("cage(0, 11)", x.cage(0, 11), -1);
        // From one to the next just the sort, alike, the total, or how many cells there are.
        String[] boards = {"3 1 top 7;across a1 sum 8", "3 1 top 7;across a1 product 8", "3 1 top 7;across a1 product 8 alike",
            "3 1 top 7;across a1 sum 8 alike", "3 1 top 7;across a1 sum 9 alike", "2 1 top 7;across a1 sum 9 alike",
            "2 1 top 7;across a1 sum 8 alike", "2 1 top 7;across a1 sum 8", "2 1 top 4;across a1 sum 8"};
        int[] ways = {12, 6, 7, 21, 28, 6, 7, 6, 0};
        for (int i = 0; i < boards.length; i++) {
            tell(x, "board " + boards[i]);
            due("cage(0, 5) of " + boards[i], x.cage(0, 5), ways[i]);
            due("solve(50) of " + boards[i], x.solve(50), ways[i]);
            due("broken(0) of " + boards[i], x.broken(0), ways[i] == 0 ? 1 : 0);
        }
    }

    private static void toldAndUndone() {
        CrossSums x = told(BOARD);
        x.put(A1, 3);
        x.keep(1);
        x.put(B1, 3);
        tell(x, "board 1 1 top 2");
        due("count(8)", x.count(8), 0);
        refused(x, "undo()", () -> x.undo(), -1);
        due("count(10)", x.count(10), 2);
        due("back(1)", x.back(1), 4);
        due("cell(0, 1)", x.cell(A1, 1), 3);
        due("cell(1, 1)", x.cell(B1, 1), 0);
    }

    private static void toldCages() {
        due("none", tell(new CrossSums(), "board 1 1 top 2"), 0);
        due("one", tell(new CrossSums(), "board 1 1 top 2;down a1 any"), 1);
        due("three", tell(new CrossSums(), "board 1 1 top 2;down a1 any;cage any a1;across a1 any"), 3);
        due("twelve", tell(new CrossSums(), twelveCages()), 12);
    }

    private static void failedTell() {
        fault("", 0, 1);
        fault("board 1 1 top 2;cage sum 3 a1;given a1 3", 39, 2);
        CrossSums x = new CrossSums();
        due("tell without a board", tell(x, "board 1 1 top 9"), -2 - (8 * 14 + 2));
        due("count(0)", x.count(0), 0);
        due("solve(1)", x.solve(1), -1);
        x = told(BOARD);
        x.put(A1, 3);
        tell(x, "board 1 1 top 2;x");
        due("undo behind a fault", x.undo(), 0);
        due("cell(0, 1)", x.cell(A1, 1), 0);
    }

    // ---- promises 5 to 8 ----

    private static void putAndLift() {
        test("5: A DIGIT is PUT in an OPEN CELL: 1", SentencesTest::puts);
        test("5: NONE, and nothing happens, without these", SentencesTest::noPuts);
        test("5: -2: it is DONE", SentencesTest::putInDone);
        test("5: -3: it is none of its MARKS", SentencesTest::putOfNoMark);
        test("6: What was PUT in a CELL (not given) goes: the DIGIT; all MARKS are there again", SentencesTest::lifts);
        test("6: NONE, and nothing happens, without that OPEN CELL", SentencesTest::noLifts);
        test("6: -2: nothing was PUT", SentencesTest::nothingPut);
    }

    private static void puts() {
        for (int digit = 1; digit <= 4; digit++) {
            CrossSums x = told(BOARD);
            due("put(0, " + digit + ")", x.put(A1, digit), 1);
            due("put(5, " + digit + ")", x.put(C2, digit), 1);
            due("cell(0, 1)", x.cell(A1, 1), digit);
            due("cell(0, 3)", x.cell(A1, 3), 1 << digit);
            due("cell(5, 1)", x.cell(C2, 1), digit);
            due("cell(5, 2)", x.cell(C2, 2), 0);
        }
    }

    private static void noPuts() {
        int[] noCells = {B2, -1, 6, 36, 64, 256, MIN, MAX};
        for (int c : noCells) {
            CrossSums x = told(BOARD);
            refused(x, "put(" + c + ", 1)", () -> x.put(c, 1), -1);
        }
        int[] noDigits = {0, 5, 7, -1, 33, 65, MIN, MAX};
        for (int d : noDigits) {
            CrossSums x = told(BOARD);
            refused(x, "put(0, " + d + ")", () -> x.put(A1, d), -1);
        }
        CrossSums x = told(BOARD);
        refused(x, "put(4, 5)", () -> x.put(B2, 5), -1);
    }

    private static void putInDone() {
        for (int digit = 1; digit <= 4; digit++) {
            CrossSums x = told(BOARD + ";given b1 4");
            x.put(A1, 1);
            int d = digit;
            refused(x, "put(0, " + d + ")", () -> x.put(A1, d), -2);
            refused(x, "put(1, " + d + ")", () -> x.put(B1, d), -2);
        }
    }

    private static void putOfNoMark() {
        CrossSums x = told(BOARD);
        x.strike(A1, 1);
        refused(x, "put(0, 1)", () -> x.put(A1, 1), -3);
        x.strike(A1, 2);
        x.strike(A1, 3);
        due("put of the last mark", x.put(A1, 4), 1);
        for (int d = 1; d <= 4; d++) {
            x.strike(B1, d);
        }
        refused(x, "put where no mark is", () -> x.put(B1, 4), -3);
    }

    private static void lifts() {
        CrossSums x = told(BOARD);
        x.strike(A1, 1);
        x.strike(A1, 2);
        x.put(A1, 3);
        due("lift(0)", x.lift(A1), 3);
        due("cell(0, 3)", x.cell(A1, 3), 30);
        due("cell(0, 1)", x.cell(A1, 1), 0);
        x.put(C2, 4);
        due("lift(5)", x.lift(C2), 4);
        x.run();
        due("lift of what a step put", x.lift(A1), 1);
        due("cell(0, 3)", x.cell(A1, 3), 30);
        due("cell(1, 3): of that cell alone", x.cell(B1, 3), 16);
    }

    private static void noLifts() {
        CrossSums x = told(BOARD);
        x.put(A1, 1);
        int[] noCells = {B2, -1, 6, 36, 64, MIN, MAX};
        for (int c : noCells) {
            refused(x, "lift(" + c + ")", () -> x.lift(c), -1);
        }
    }

    private static void nothingPut() {
        CrossSums x = told(BOARD + ";given b1 4");
        refused(x, "lift of a free cell", () -> x.lift(A1), -2);
        refused(x, "lift of a given one", () -> x.lift(B1), -2);
        x.put(A1, 1);
        x.lift(A1);
        refused(x, "lift again", () -> x.lift(A1), -2);
        x.strike(A1, 1);
        x.strike(A1, 2);
        x.strike(A1, 3);
        refused(x, "lift of one mark that is not put", () -> x.lift(A1), -2);
        x.put(A1, 4);
        x.give(A1, 4);
        refused(x, "lift of what was put and is given", () -> x.lift(A1), -2);
    }

    private static void strikeAndGive() {
        test("7: A MARK of an OPEN CELL is struck: how many are left", SentencesTest::strikes);
        test("7: NONE, and nothing happens, without these", SentencesTest::noStrikes);
        test("7: -2: it is DONE", SentencesTest::strikeInDone);
        test("7: -3: it is none of its MARKS", SentencesTest::strikeOfNoMark);
        test("8: A CELL is given a DIGIT (whatever was there): 1", SentencesTest::gives);
        test("8: NONE, and nothing happens, without these", SentencesTest::noGives);
        test("8: -2: it is given just that", SentencesTest::givenJustThat);
    }

    private static void strikes() {
        CrossSums x = told(BOARD);
        due("strike(0, 4)", x.strike(A1, 4), 3);
        due("cell(0, 3)", x.cell(A1, 3), 14);
        due("strike(0, 1)", x.strike(A1, 1), 2);
        due("strike(0, 3)", x.strike(A1, 3), 1);
        due("strike of the last", x.strike(A1, 2), 0);
        due("cell(0, 3)", x.cell(A1, 3), 0);
        due("strike(5, 2)", x.strike(C2, 2), 3);
        due("count(7)", x.count(7), 15);
    }

    private static void noStrikes() {
        int[] noCells = {B2, -1, 6, 36, 64, MIN, MAX};
        for (int c : noCells) {
            CrossSums x = told(BOARD);
            refused(x, "strike(" + c + ", 1)", () -> x.strike(c, 1), -1);
        }
        int[] noDigits = {0, 5, -1, 33, 65, MIN, MAX};
        for (int d : noDigits) {
            CrossSums x = told(BOARD);
            refused(x, "strike(0, " + d + ")", () -> x.strike(A1, d), -1);
        }
    }

    private static void strikeInDone() {
        for (int digit = 1; digit <= 4; digit++) {
            CrossSums x = told(BOARD + ";given b1 4");
            x.put(A1, 1);
            int d = digit;
            refused(x, "strike(0, " + d + ")", () -> x.strike(A1, d), -2);
            refused(x, "strike(1, " + d + ")", () -> x.strike(B1, d), -2);
        }
    }

    private static void strikeOfNoMark() {
        CrossSums x = told(BOARD);
        for (int digit = 4; digit >= 1; digit--) {
            int d = digit;
            x.strike(A1, d);
            refused(x, "strike(0, " + d + ") again", () -> x.strike(A1, d), -3);
        }
    }

    private static void gives() {
        CrossSums x = told(BOARD + ";given b1 4");
        due("give to a free cell", x.give(A2, 3), 1);
        due("cell(3, 2)", x.cell(A2, 2), 1);
        due("cell(3, 3)", x.cell(A2, 3), 8);
        due("give of another one", x.give(B1, 1), 1);
        due("cell(1, 1)", x.cell(B1, 1), 1);
        due("cell(1, 3)", x.cell(B1, 3), 2);
        x.put(C1, 2);
        due("give of another one than put", x.give(C1, 4), 1);
        due("cell(2, 1)", x.cell(C1, 1), 4);
        x.put(C2, 2);
        due("give of the one put", x.give(C2, 2), 1);
        due("cell(5, 2)", x.cell(C2, 2), 1);
        x.strike(A1, 1);
        due("give of one struck", x.give(A1, 1), 1);
        due("cell(0, 3)", x.cell(A1, 3), 2);
        due("count(5)", x.count(5), 5);
        due("count(6)", x.count(6), 5);
    }

    private static void noGives() {
        int[] noCells = {B2, -1, 6, 36, 64, MIN, MAX};
        for (int c : noCells) {
            CrossSums x = told(BOARD);
            refused(x, "give(" + c + ", 1)", () -> x.give(c, 1), -1);
        }
        int[] noDigits = {0, 5, -1, 33, 65, MIN, MAX};
        for (int d : noDigits) {
            CrossSums x = told(BOARD);
            refused(x, "give(0, " + d + ")", () -> x.give(A1, d), -1);
        }
    }

    private static void givenJustThat() {
        CrossSums x = told(BOARD + ";given b1 4");
        refused(x, "give(1, 4)", () -> x.give(B1, 4), -2);
        x.give(A1, 2);
        refused(x, "give(0, 2)", () -> x.give(A1, 2), -2);
        x.give(A1, 3);
        refused(x, "give(0, 3)", () -> x.give(A1, 3), -2);
        due("give(0, 2)", x.give(A1, 2), 1);
    }

    // ---- promises 9 to 12 ----

    private static void totals() {
        test("9: The TOTAL of a CAGE (that is not any): what it was", SentencesTest::totalsWere);
        test("9: NONE, and nothing happens, without these (as far as a text may tell it)", SentencesTest::noTotals);
        test("9: -2: it is so", SentencesTest::totalIsSo);
    }

    private static CrossSums oneOfEach() {
        return told("board 2 1 top 4;across a1 sum 5;across a1 product 4;across a1 span 3;across a1 any");
    }

    private static void totalsWere() {
        CrossSums x = oneOfEach();
        int[][] chain = {{0, 0, 5}, {0, 99, 0}, {0, 3, 99}, {1, 0, 4}, {1, 999999, 0}, {1, 12, 999999}, {2, 0, 3}, {2, 6, 0},
            {2, 1, 6}};
        for (int[] c : chain) {
            due("total(" + c[0] + ", " + c[1] + ")", x.total(c[0], c[1]), c[2]);
            due("cage(" + c[0] + ", 1)", x.cage(c[0], 1), c[1]);
        }
        due("ways by it", x.cage(0, 5) + 10 * x.cage(1, 5) + 100 * x.cage(2, 5), 622);
    }

    private static void noTotals() {
        int[][] wrong = {{0, -1}, {0, 100}, {0, MIN}, {0, MAX}, {1, -1}, {1, 1000000}, {1, MAX}, {2, -1}, {2, 7}, {2, 99},
            {3, 0}, {3, 1}, {3, -1}, {4, 5}, {-1, 5}, {12, 5}, {32, 5}, {MIN, 5}, {MAX, 5}};
        for (int[] w : wrong) {
            CrossSums x = oneOfEach();
            refused(x, "total(" + w[0] + ", " + w[1] + ")", () -> x.total(w[0], w[1]), -1);
        }
    }

    private static void totalIsSo() {
        CrossSums x = oneOfEach();
        refused(x, "total(0, 5)", () -> x.total(0, 5), -2);
        refused(x, "total(1, 4)", () -> x.total(1, 4), -2);
        refused(x, "total(2, 3)", () -> x.total(2, 3), -2);
        x.total(2, 0);
        refused(x, "total(2, 0)", () -> x.total(2, 0), -2);
    }

    private static void steps() {
        test("10: A STEP: 1 to 4", SentencesTest::stepKinds);
        test("10: 0, and nothing happens: none can be", SentencesTest::noStep);
        test("10: NONE without a BOARD", () -> {
            CrossSums x = new CrossSums();
            refused(x, "step()", () -> x.step(), -1);
        });
        test("10: -2, and nothing happens: it is BROKEN", SentencesTest::stepOfBroken);
    }

    private static void stepKinds() {
        CrossSums x = told("board 2 1 top 2;cage sum 2 a1");
        due("step() of WAYS", x.step(), 2);
        due("cell(0, 3)", x.cell(0, 3), 4);
        due("cell(0, 1)", x.cell(0, 1), 0);
        due("step() of ALONE", x.step(), 1);
        due("cell(0, 1)", x.cell(0, 1), 2);
        due("step() of none", x.step(), 0);
        due("count(8)", x.count(8), 2);
    }

    private static void noStep() {
        CrossSums free = told("board 2 1 top 2;across a1 any");
        refused(free, "step() of a board with nothing struck", () -> free.step(), 0);
        CrossSums full = told("board 2 1 top 2;across a1 any;given a1 1;given b1 2");
        refused(full, "step() of a board that is done", () -> full.step(), 0);
        CrossSums blocks = told("board 1 1 top 2;block a1");
        refused(blocks, "step() of blocks", () -> blocks.step(), 0);
    }

    private static void stepOfBroken() {
        CrossSums x = told("board 2 1 top 2;cage sum 3 a1");
        refused(x, "step() without a way", () -> x.step(), -2);
        CrossSums y = told("board 2 1 top 2;cage sum 1 b1");
        y.strike(0, 1);
        y.strike(0, 2);
        refused(y, "step() without a mark", () -> y.step(), -2);
    }

    private static void runs() {
        test("11: All STEPS, one behind the other, as long as one can be (one ACT): how many", SentencesTest::allSteps);
        test("11: NONE without a BOARD", () -> {
            CrossSums x = new CrossSums();
            refused(x, "run()", () -> x.run(), -1);
        });
        test("11: -2, and nothing happens: it is BROKEN ahead of any", SentencesTest::runOfBroken);
        test("11: 0, and nothing happens: none can be", SentencesTest::noRun);
    }

    private static void allSteps() {
        CrossSums x = told(BOARD);
        due("run()", x.run(), 20);
        due("count(8)", x.count(8), 1);
        due("count(6)", x.count(6), 5);
        due("step()", x.step(), 0);
        due("undo()", x.undo(), 0);
        due("count(7)", x.count(7), 20);
        // a1 becomes 1 by the one cage and then has no way by the other: the steps end there.
        CrossSums y = told("board 1 1 top 2;cage sum 1 a1;cage sum 2 a1");
        due("run() that breaks", y.run(), 1);
        due("broken(1)", y.broken(1), 1);
        due("count(8)", y.count(8), 1);
        CrossSums one = told("board 1 1 top 2");
        one.strike(0, 1);
        due("run() of one step", one.run(), 1);
        // All of sixteen cells: six marks each are struck, then each is put.
        StringBuilder b = new StringBuilder("board 4 4 top 7");
        for (int row = 1; row <= 4; row++) {
            b.append(";across a").append(row).append(" sum 28 alike");
        }
        due("run() of 7 in sixteen cells", told(b.toString()).run(), 16 * 7);
    }

    private static void runOfBroken() {
        CrossSums x = told("board 2 1 top 2;cage sum 1 a1;cage sum 3 b1");
        refused(x, "run() without a way", () -> x.run(), -2);
        CrossSums y = told("board 2 1 top 2;cage sum 1 a1");
        y.strike(1, 1);
        y.strike(1, 2);
        refused(y, "run() without a mark", () -> y.run(), -2);
    }

    private static void noRun() {
        CrossSums x = told("board 2 1 top 2;across a1 any");
        refused(x, "run()", () -> x.run(), 0);
        CrossSums blocks = told("board 1 1 top 2;block a1");
        refused(blocks, "run() of blocks", () -> blocks.run(), 0);
        CrossSums y = told(BOARD);
        y.run();
        refused(y, "run() behind run()", () -> y.run(), 0);
    }

    private static void makes() {
        test("12: It is MADE by a seed: how many CELLS are given", SentencesTest::made);
        test("12: NONE without a BOARD", () -> {
            CrossSums x = new CrossSums();
            refused(x, "make(1)", () -> x.make(1), -1);
        });
        test("12: -2, and nothing happens: no DIGITS are found so", SentencesTest::noneMade);
    }

    private static void made() {
        int[] seeds = {0, 1, -1, MIN, MAX, 77};
        for (int seed : seeds) {
            CrossSums x = told(BOARD);
            int given = x.make(seed);
            due("count(5) by " + seed, x.count(5), given);
            due("count(6) by " + seed, x.count(6), given);
            due("solve(2) by " + seed, x.solve(2), 1);
            due("count(8)", x.count(8), 1);
        }
        due("make(5) of blocks", told("board 1 1 top 2;block a1").make(5), 0);
        due("make(5) of two free cells", told("board 2 1 top 2").make(5), 2);
    }

    private static void noneMade() {
        CrossSums x = told("board 3 1 top 2;across a1 any;cage sum 3 a1 b1;given a1 2");
        x.put(1, 1);
        refused(x, "make(1)", () -> x.make(1), -2);
        due("lift(1)", x.lift(1), 1);
    }

    // ---- promises 13 to 15 ----

    private static void undos() {
        test("13: The last ACT is UNDONE: how many more can be", SentencesTest::undone);
        test("13: NONE, and nothing happens, if none can", SentencesTest::noneUndone);
    }

    private static void undone() {
        CrossSums x = told("board 1 1 top 7");
        for (int d = 1; d <= 6; d++) {
            x.give(0, d);
        }
        for (int d = 5; d >= 1; d--) {
            due("undo()", x.undo(), d);
            due("cell(0, 1)", x.cell(0, 1), d);
        }
        due("undo()", x.undo(), 0);
        due("cell(0, 2)", x.cell(0, 2), 0);
        for (int i = 0; i < 35; i++) {
            x.give(0, 1 + i % 7);
        }
        due("count(8)", x.count(8), 10);
        for (int i = 33; i >= 24; i--) {
            due("undo() of many", x.undo(), i - 24);
            due("cell(0, 1) of many", x.cell(0, 1), 1 + i % 7);
        }
        due("undo() of an eleventh", x.undo(), -1);
    }

    private static void noneUndone() {
        CrossSums x = told(BOARD);
        refused(x, "undo() of nothing", () -> x.undo(), -1);
        x.put(B2, 1);
        x.put(A1, 9);
        x.lift(A1);
        x.total(0, 7);
        x.back(0);
        refused(x, "undo() of refused calls", () -> x.undo(), -1);
        x.put(A1, 1);
        x.undo();
        refused(x, "undo() behind the last", () -> x.undo(), -1);
    }

    private static void shelves() {
        test("14: All is KEPT on a SHELF: how many CAGES", SentencesTest::keeps);
        test("14: NONE, and nothing happens, without that SHELF", SentencesTest::noShelfToKeep);
        test("15: All is as it was KEPT (nothing can be UNDONE then): how many CAGES", SentencesTest::backs);
        test("15: NONE, and nothing happens, without that SHELF", SentencesTest::noShelfToBack);
        test("15: -2: nothing is KEPT", SentencesTest::nothingKept);
    }

    private static void keeps() {
        CrossSums x = new CrossSums();
        due("keep(0) without a board", x.keep(0), 0);
        due("count(10)", x.count(10), 1);
        tell(x, twelveCages());
        x.put(0, 1);
        due("keep(1) of twelve", x.keep(1), 12);
        due("count(10)", x.count(10), 3);
        due("count(8)", x.count(8), 1);
        tell(x, "board 1 1 top 2");
        due("keep(1) of none", x.keep(1), 0);
        due("back(1): the later one", x.back(1), 0);
        due("count(0)", x.count(0), 1);
    }

    private static void noShelfToKeep() {
        int[] noShelves = {-1, 2, 3, 31, 32, 33, MIN, MAX};
        for (int s : noShelves) {
            CrossSums x = told(BOARD);
            refused(x, "keep(" + s + ")", () -> x.keep(s), -1);
        }
    }

    private static void backs() {
        CrossSums x = told(BOARD + ";given b1 4");
        x.put(A1, 2);
        x.strike(C2, 1);
        String kept = board(x);
        x.keep(0);
        x.lift(A1);
        x.give(B1, 1);
        x.total(0, 12);
        x.make(3);
        due("back(0)", x.back(0), 4);
        due("what was kept", board(x), kept);
        refused(x, "undo()", () -> x.undo(), -1);
        x.put(A2, 1);
        due("back(0) again", x.back(0), 4);
        due("what was kept", board(x), kept);
        due("lift: it was put", x.lift(A1), 2);
        CrossSums none = new CrossSums();
        none.keep(1);
        tell(none, BOARD);
        due("back(1) of no board", none.back(1), 0);
        due("count(0)", none.count(0), 0);
        due("letter(-1)", none.letter(-1), 0);
        due("step()", none.step(), -1);
    }

    private static void noShelfToBack() {
        int[] noShelves = {-1, 2, 3, 31, 32, 33, MIN, MAX};
        for (int s : noShelves) {
            CrossSums x = told(BOARD);
            x.keep(0);
            x.keep(1);
            x.put(A1, 1);
            refused(x, "back(" + s + ")", () -> x.back(s), -1);
        }
    }

    private static void nothingKept() {
        CrossSums x = told(BOARD);
        x.put(A1, 1);
        refused(x, "back(0)", () -> x.back(0), -2);
        refused(x, "back(1)", () -> x.back(1), -2);
        x.keep(0);
        refused(x, "back(1) when 0 is kept", () -> x.back(1), -2);
        due("back(0)", x.back(0), 4);
    }

    // ---- promises 16 to 21 ----

    private static void cells() {
        test("16: 0: 1 OPEN, 0 BLOCK", () -> cellAnswers(0, 1, 1, 1, 1, 0, 1));
        test("16: 1: the DIGIT given or PUT (0)", () -> cellAnswers(1, 1, 4, 0, 0, 0, 0));
        test("16: 2: 1 given, else 0", () -> cellAnswers(2, 0, 1, 0, 0, 0, 0));
        test("16: 3: MARKS (bit 1 and so on)", () -> cellAnswers(3, 2, 16, 14, 30, 0, 0));
        test("16: 4: CAGES in which it is, as bits", () -> cellAnswers(4, 3, 1, 5, 10, 0, 12));
        test("16: NONE without these", SentencesTest::noCells);
    }

    /** In a1 1 is put, in b1 4 is given, in c1 4 is struck, in c2 all are. */
    private static void cellAnswers(int what, int... want) {
        CrossSums x = told(BOARD + ";given b1 4");
        x.put(A1, 1);
        x.strike(C1, 4);
        for (int d = 1; d <= 4; d++) {
            x.strike(C2, d);
        }
        for (int c = 0; c < 6; c++) {
            due("cell(" + c + ", " + what + ")", x.cell(c, what), want[c]);
        }
    }

    private static void noCells() {
        CrossSums x = told(BOARD);
        for (int what = 0; what <= 4; what++) {
            int[] noCells = {-1, 6, 7, 35, 36, 64, MIN, MAX};
            for (int c : noCells) {
                due("cell(" + c + ", " + what + ")", x.cell(c, what), -1);
            }
        }
        int[] no = {-1, 5, 10, MIN, MAX};
        for (int what : no) {
            due("cell(0, " + what + ")", x.cell(A1, what), -1);
            due("cell(4, " + what + ")", x.cell(B2, what), -1);
        }
    }

    private static void cages() {
        test("17: 0: SORT", () -> cageAnswers(0, 0, 1, 2, 3));
        test("17: 1: TOTAL", () -> cageAnswers(1, 7, 6, 3, 0));
        test("17: 2: how many CELLS", () -> cageAnswers(2, 3, 2, 6, 1));
        test("17: 3: 1 UNLIKE, 0 ALIKE", () -> cageAnswers(3, 1, 1, 0, 0));
        test("17: 4: how many are DONE", () -> cageAnswers(4, 2, 0, 2, 0));
        test("17: 5: how many WAYS", () -> cageAnswers(5, 1, 2, 256 - 81, 4));
        test("17: 10 and so on: the CELLS", SentencesTest::cellsOfCage);
        test("17: NONE without these", SentencesTest::noCages);
    }

    /** In a1 1 is put, b1 is given 2. The span of 3 is there if one of the other four is a 4. */
    private static CrossSums fourCages() {
        CrossSums x = told("board 3 2 top 4;across a1 sum 7;cage product 6 c1 c2;cage span 3 alike a1b1c1a2b2c2"
                + ";cage any alike c2;given b1 2");
        x.put(A1, 1);
        return x;
    }

    private static void cageAnswers(int what, int... want) {
        CrossSums x = fourCages();
        for (int k = 0; k < 4; k++) {
            due("cage(" + k + ", " + what + ")", x.cage(k, what), want[k]);
        }
    }

    private static void cellsOfCage() {
        CrossSums x = fourCages();
        for (int i = 0; i < 6; i++) {
            due("cage(2, " + (10 + i) + ")", x.cage(2, 10 + i), i);
            due("cage(1, " + (10 + i) + ")", x.cage(1, 10 + i), i == 0 ? 2 : i == 1 ? 5 : -1);
        }
        due("cage(2, 16)", x.cage(2, 16), -1);
    }

    private static void noCages() {
        CrossSums x = fourCages();
        int[] noWhats = {-1, 6, 7, 8, 9, 16, 17, MIN, MAX};
        for (int what : noWhats) {
            due("cage(2, " + what + ")", x.cage(2, what), -1);
        }
        int[] noCages = {-1, 4, 11, 12, 32, MIN, MAX};
        for (int k : noCages) {
            for (int what = 0; what <= 10; what++) {
                due("cage(" + k + ", " + what + ")", x.cage(k, what), -1);
            }
        }
    }

    private static void waysOfCages() {
        test("18: In how many WAYS of a CAGE a DIGIT is", SentencesTest::has);
        test("18: NONE without these", SentencesTest::hasNone);
        test("19: DIGITS that a CELL has in some WAY of a CAGE in which it is (bit 1 and so on)", SentencesTest::could);
        test("19: NONE without these", SentencesTest::couldNone);
        test("20: DIGITS that are in each WAY of a CAGE (bit 1 and so on; without WAYS 0)", SentencesTest::must);
        test("20: NONE without it", SentencesTest::mustNone);
        test("21: Sets of DIGITS (bit 1 and so on) that WAYS of a CAGE have, by rising numbers: the k-th", SentencesTest::sets);
        test("21: k NONE: how many", SentencesTest::manySets);
        test("21: -2: there are not so many", SentencesTest::tooFewSets);
        test("21: NONE without that CAGE, for k below NONE", SentencesTest::setsNone);
    }

    /** Unlike 1 2 3 in six orders; alike 4 1 1 in three, 3 2 1 in six, 2 2 2; no way; a cell alone. */
    private static CrossSums sixes() {
        return told("board 3 1 top 4;across a1 sum 6;across a1 sum 6 alike;cage sum 9 a1;cage any b1;cage sum 5 a1 b1");
    }

    private static void has() {
        CrossSums x = sixes();
        int[][] want = {{6, 6, 6, 0}, {9, 7, 6, 3}, {0, 0, 0, 0}, {1, 1, 1, 1}, {2, 2, 2, 2}};
        for (int k = 0; k < 5; k++) {
            for (int d = 1; d <= 4; d++) {
                due("has(" + k + ", " + d + ")", x.has(k, d), want[k][d - 1]);
            }
        }
    }

    private static void hasNone() {
        CrossSums x = sixes();
        int[] noDigits = {0, 5, 7, 8, -1, 33, MIN, MAX};
        for (int d : noDigits) {
            due("has(0, " + d + ")", x.has(0, d), -1);
            due("has(2, " + d + ")", x.has(2, d), -1);
        }
        int[] noCages = {-1, 5, 12, MIN, MAX};
        for (int k : noCages) {
            due("has(" + k + ", 1)", x.has(k, 1), -1);
        }
    }

    private static void could() {
        CrossSums x = sixes();
        due("could(0, 0)", x.could(0, 0), 14);
        due("could(1, 2)", x.could(1, 2), 30);
        due("could(2, 0) without ways", x.could(2, 0), 0);
        due("could(3, 1)", x.could(3, 1), 30);
        x.put(0, 1);
        due("could(0, 0)", x.could(0, 0), 2);
        due("could(0, 2)", x.could(0, 2), 12);
        due("could(1, 2)", x.could(1, 2), 30);
        due("could(4, 1)", x.could(4, 1), 16);
    }

    private static void couldNone() {
        CrossSums x = sixes();
        due("could(2, 1): not in that cage", x.could(2, 1), -1);
        due("could(3, 0): not in that cage", x.could(3, 0), -1);
        int[] no = {-1, 5, 12, 36, 64, MIN, MAX};
        for (int n : no) {
            due("could(0, " + n + ")", x.could(0, n), -1);
            due("could(" + n + ", 0)", x.could(n, 0), -1);
        }
        due("could(0, 3)", x.could(0, 3), -1);
        due("could of a block", told(BOARD).could(3, B2), -1);
    }

    private static void must() {
        CrossSums x = sixes();
        for (int k = 0; k < 5; k++) {
            due("must(" + k + ")", x.must(k), k == 0 ? 14 : 0);
        }
        x.strike(0, 2);
        due("must(1) without 2 2 2", x.must(1), 2);
        x.strike(0, 3);
        x.strike(0, 4);
        due("must(4)", x.must(4), 18);
        due("must(3)", x.must(3), 0);
        x.put(1, 3);
        due("must(3) of one cell that is done", x.must(3), 8);
    }

    private static void mustNone() {
        CrossSums x = sixes();
        int[] noCages = {-1, 5, 12, MIN, MAX};
        for (int k : noCages) {
            due("must(" + k + ")", x.must(k), -1);
        }
    }

    private static void sets() {
        CrossSums x = sixes();
        int[][] want = {{14}, {4, 14, 18}, {}, {2, 4, 8, 16}, {12, 18}};
        for (int k = 0; k < 5; k++) {
            for (int i = 0; i < want[k].length; i++) {
                due("sets(" + k + ", " + i + ")", x.sets(k, i), want[k][i]);
            }
        }
        due("sets of all seven", told("board 3 2 top 7;cage any alike a1b1c1a2b2c2").sets(0, 125), 252);
    }

    private static void manySets() {
        CrossSums x = sixes();
        int[] want = {1, 3, 0, 4, 2};
        for (int k = 0; k < 5; k++) {
            due("sets(" + k + ", -1)", x.sets(k, -1), want[k]);
        }
        due("sets of all seven", told("board 3 2 top 7;cage any alike a1b1c1a2b2c2").sets(0, -1), 126);
    }

    private static void tooFewSets() {
        CrossSums x = sixes();
        int[] many = {1, 3, 0, 4, 2};
        for (int k = 0; k < 5; k++) {
            due("sets(" + k + ", " + many[k] + ")", x.sets(k, many[k]), -2);
            due("sets(" + k + ", max)", x.sets(k, MAX), -2);
        }
        due("sets(0, 126)", told("board 3 2 top 7;cage any alike a1b1c1a2b2c2").sets(0, 126), -2);
    }

    private static void setsNone() {
        CrossSums x = sixes();
        int[] noCages = {-1, 5, 12, MIN, MAX};
        for (int k : noCages) {
            due("sets(" + k + ", 0)", x.sets(k, 0), -1);
            due("sets(" + k + ", -1)", x.sets(k, -1), -1);
        }
        due("sets(0, -2)", x.sets(0, -2), -1);
        due("sets(2, -2)", x.sets(2, -2), -1);
        due("sets(0, min)", x.sets(0, MIN), -1);
    }

    // ---- promises 22 and 23 ----

    private static void stepsForeseen() {
        test("22: what 0: which (0: none, or it is BROKEN)", SentencesTest::nextKinds);
        test("22: 1: the CAGE (-2 of ALONE)", SentencesTest::nextCages);
        test("22: 2: the CELL, 3: the DIGIT", SentencesTest::nextCellsAndDigits);
        test("22: -2 of 1 to 3 if there is none", SentencesTest::nextOfNone);
        test("22: NONE for others, without a BOARD", SentencesTest::nextNone);
        test("23: Were all STEPS done, what 0: how many, 1: their kinds together", SentencesTest::weightOfSteps);
        test("23: 2: CELLS that are not DONE then", SentencesTest::notDoneThen);
        test("23: 3: 1 if it is BROKEN then, else 0", SentencesTest::brokenThen);
        test("23: 10 and so on: MARKS of CELL 0 and so on then (0 of BLOCKS)", SentencesTest::marksThen);
        test("23: NONE without these, without a BOARD", SentencesTest::weightNone);
    }

    /** No cage has the first cell; in c1 and b1 1 is in no way. */
    private static CrossSums fives() {
        return told("board 3 1 top 3;cage sum 5 b1 c1");
    }

    private static void nextKinds() {
        CrossSums x = fives();
        refused(x, "next(0)", () -> x.next(0), 2);
        x.strike(0, 1);
        x.strike(0, 3);
        refused(x, "next(0) of one mark", () -> x.next(0), 1);
        x.total(0, 0);
        refused(x, "next(0) of a broken one", () -> x.next(0), 0);
        CrossSums free = told("board 3 1 top 3");
        refused(free, "next(0) of none", () -> free.next(0), 0);
    }

    private static void nextCages() {
        due("next(1) of WAYS", fives().next(1), 0);
        due("next(1) of WAYS of a later cage", told("board 2 1 top 3;across a1 any;cage sum 2 b1").next(1), 1);
        CrossSums x = fives();
        x.strike(1, 1);
        x.strike(1, 2);
        due("next(1) of ALONE", x.next(1), -2);
    }

    private static void nextCellsAndDigits() {
        CrossSums x = fives();
        due("next(2)", x.next(2), 1);
        due("next(3)", x.next(3), 1);
        x.step();
        due("next(2)", x.next(2), 2);
        due("next(3)", x.next(3), 1);
        x.strike(0, 1);
        x.strike(0, 2);
        due("next(2) of ALONE", x.next(2), 0);
        due("next(3) of ALONE", x.next(3), 3);
    }

    private static void nextOfNone() {
        CrossSums x = fives();
        x.run();
        for (int what = 1; what <= 3; what++) {
            due("next(" + what + ") behind all steps", x.next(what), -2);
        }
        x.total(0, 0);
        for (int what = 1; what <= 3; what++) {
            due("next(" + what + ") of a broken one", x.next(what), -2);
        }
    }

    private static void nextNone() {
        CrossSums x = fives();
        int[] others = {-1, 4, 5, 10, MIN, MAX};
        for (int what : others) {
            due("next(" + what + ")", x.next(what), -1);
            due("next(" + what + ") of none", told("board 1 1 top 2").next(what), -1);
        }
        for (int what = 0; what <= 3; what++) {
            due("next(" + what + ") without a board", new CrossSums().next(what), -1);
        }
    }

    private static void weightOfSteps() {
        CrossSums x = fives();
        refused(x, "weight(0)", () -> x.weight(0), 2);
        refused(x, "weight(1)", () -> x.weight(1), 4);
        x.put(1, 2);
        // In c1 1 and 2 are struck, and it is put.
        refused(x, "weight(0) with b1", () -> x.weight(0), 3);
        refused(x, "weight(1) with b1", () -> x.weight(1), 5);
        x.run();
        due("weight(0) behind all steps", x.weight(0), 0);
        due("weight(1) behind all steps", x.weight(1), 0);
        x.total(0, 0);
        due("weight(0) of a broken one", x.weight(0), 0);
        due("weight(1) of a broken one", x.weight(1), 0);
        due("weight(0) of none", told("board 3 1 top 3").weight(0), 0);
    }

    private static void notDoneThen() {
        CrossSums x = told("board 3 2 top 3;block a2c2;cage sum 5 b1 c1;given a1 1");
        due("weight(2)", x.weight(2), 3);
        x.put(1, 2);
        due("weight(2) with b1", x.weight(2), 1);
        due("count(6) now", x.count(6), 2);
        x.put(4, 2);
        due("weight(2) with b2", x.weight(2), 0);
        due("weight(2) of blocks", told("board 1 1 top 2;block a1").weight(2), 0);
    }

    private static void brokenThen() {
        due("weight(3)", fives().weight(3), 0);
        due("weight(3) of one broken now", told("board 1 1 top 2;cage sum 3 a1").weight(3), 1);
        CrossSums x = told("board 1 1 top 2;cage sum 1 a1;cage sum 2 a1");
        due("broken(0) now", x.broken(0), 0);
        due("weight(3) of one broken then", x.weight(3), 1);
        due("weight(0) of one broken then", x.weight(0), 1);
        due("weight(10) of one broken then", x.weight(10), 2);
    }

    private static void marksThen() {
        CrossSums x = told("board 3 2 top 3;block a2c2;cage sum 5 b1 c1;given a1 1");
        int[] want = {2, 12, 12, 0, 14, 0};
        for (int c = 0; c < 6; c++) {
            due("weight(" + (10 + c) + ")", x.weight(10 + c), want[c]);
        }
        due("cell(1, 3) now", x.cell(1, 3), 14);
        due("weight(45) of 36 cells", told("board 6 6 top 3;block " + names(6, 0, 35, -1)).weight(45), 14);
    }

    private static void weightNone() {
        CrossSums x = told("board 3 2 top 3;block a2c2;cage sum 5 b1 c1");
        int[] others = {-1, 4, 5, 9, 16, 17, 46, MIN, MAX};
        for (int what : others) {
            due("weight(" + what + ")", x.weight(what), -1);
        }
        due("weight(46) of 36 cells", told("board 6 6 top 3;block " + names(6, 0, 35, -1)).weight(46), -1);
        int[] all = {0, 1, 2, 3, 10};
        for (int what : all) {
            due("weight(" + what + ") without a board", new CrossSums().weight(what), -1);
        }
    }

    // ---- promises 24 to 28 ----

    private static void solutions() {
        test("24: How many SOLUTIONS there are, most at the most (1 to 50)", SentencesTest::solves);
        test("24: NONE for others, without a BOARD", SentencesTest::solveNone);
        test("25: The DIGIT of an OPEN CELL in the k-th SOLUTION (0 to 9)", SentencesTest::solutionDigits);
        test("25: -2: there are not so many", SentencesTest::tooFewSolutions);
        test("25: NONE without these", SentencesTest::solutionNone);
    }

    private static void solves() {
        // 7 times 7 and one: 49 and 50 and more.
        CrossSums x = told("board 2 1 top 7");
        due("solve(50) of 49", x.solve(50), 49);
        due("solve(49) of 49", x.solve(49), 49);
        due("solve(48) of 49", x.solve(48), 48);
        due("solve(1) of 49", x.solve(1), 1);
        due("solve(50) of 343", told("board 3 1 top 7").solve(50), 50);
        due("solve(1) of one", told("board 1 1 top 2;given a1 1").solve(1), 1);
        due("solve(50) of one", told("board 1 1 top 2;given a1 1").solve(50), 1);
        due("solve(50) of blocks", told("board 1 1 top 2;block a1").solve(50), 1);
        due("solve(1) of none", told("board 1 1 top 2;cage sum 3 a1").solve(1), 0);
        due("solve(50) of none", told("board 1 1 top 2;cage sum 3 a1").solve(50), 0);
    }

    private static void solveNone() {
        CrossSums x = told(BOARD);
        int[] others = {0, -1, 51, 100, MIN, MAX};
        for (int most : others) {
            due("solve(" + most + ")", x.solve(most), -1);
        }
        due("solve(1) without a board", new CrossSums().solve(1), -1);
        due("solve(50) without a board", new CrossSums().solve(50), -1);
    }

    private static void solutionDigits() {
        CrossSums x = told("board 2 1 top 7");
        for (int k = 0; k <= 9; k++) {
            due("solution(" + k + ", 0)", x.solution(k, 0), 1 + k / 7);
            due("solution(" + k + ", 1)", x.solution(k, 1), 1 + k % 7);
        }
        x = told(BOARD);
        int[] want = {1, 4, 2, 2, -1, 3};
        for (int c = 0; c < 6; c++) {
            due("solution(0, " + c + ")", x.solution(0, c), want[c]);
        }
        x.put(A2, 2);
        x.give(C2, 3);
        due("solution(0, 3) where it is put", x.solution(0, A2), 2);
        due("solution(0, 5) where it is given", x.solution(0, C2), 3);
    }

    private static void tooFewSolutions() {
        due("solution(1, 0) of one", told(BOARD).solution(1, A1), -2);
        due("solution(9, 0) of one", told(BOARD).solution(9, A1), -2);
        due("solution(0, 0) of none", told("board 1 1 top 2;cage sum 3 a1").solution(0, 0), -2);
        CrossSums nine = told("board 2 1 top 3");
        due("solution(8, 0) of nine", nine.solution(8, 0), 3);
        due("solution(9, 0) of nine", nine.solution(9, 0), -2);
    }

    private static void solutionNone() {
        CrossSums x = told("board 2 2 top 7;block b2");
        int[] noNumbers = {-1, 10, 11, 50, MIN, MAX};
        for (int k : noNumbers) {
            due("solution(" + k + ", 0)", x.solution(k, 0), -1);
        }
        int[] noCells = {3, -1, 4, 36, 64, MIN, MAX};
        for (int c : noCells) {
            due("solution(0, " + c + ")", x.solution(0, c), -1);
            due("solution(9, " + c + ")", x.solution(9, c), -1);
        }
        due("solution(0, 0) without a board", new CrossSums().solution(0, 0), -1);
    }

    private static void byAllSolutions() {
        test("26: DIGITS that an OPEN CELL has in some SOLUTION (bit 1 and so on)", SentencesTest::agrees);
        test("26: NONE without it", SentencesTest::agreeNone);
        test("27: The first CELL that is not DONE and has one DIGIT in all SOLUTIONS", SentencesTest::hints);
        test("27: (there is one)", SentencesTest::hintOfNoSolution);
        test("27: -2: none", SentencesTest::noHint);
        test("27: NONE for others, without a BOARD", SentencesTest::hintNone);
    }

    private static void agrees() {
        CrossSums x = told("board 3 1 top 7;cage product 6 a1 b1");
        due("agree(0)", x.agree(0), 2 | 4 | 8 | 64);
        due("agree(2) of a free cell", x.agree(2), 254);
        x.put(0, 1);
        due("agree(0) of one that is put", x.agree(0), 2);
        due("agree(1)", x.agree(1), 64);
        x.strike(1, 6);
        due("agree(1) without solutions", x.agree(1), 0);
        due("agree(0) without solutions", x.agree(0), 0);
        due("agree(2) without solutions", x.agree(2), 0);
        // More solutions than solve counts: all are looked at.
        due("agree(3) of 2401", told("board 4 1 top 7").agree(3), 254);
    }

    private static void agreeNone() {
        CrossSums x = told(BOARD);
        int[] noCells = {B2, -1, 6, 36, 64, MIN, MAX};
        for (int c : noCells) {
            due("agree(" + c + ")", x.agree(c), -1);
        }
        due("agree(0) without a board", new CrossSums().agree(0), -1);
    }

    private static void hints() {
        CrossSums x = told("board 4 1 top 3;cage sum 3 b1;cage sum 2 c1;given c1 2");
        due("hint(0)", x.hint(0), 1);
        due("hint(1)", x.hint(1), 3);
        x.strike(3, 1);
        x.strike(3, 2);
        x.put(1, 3);
        due("hint(0): neither put nor given", x.hint(0), 3);
        due("hint(1)", x.hint(1), 3);
        x.strike(0, 1);
        due("hint(0): two digits are not one", x.hint(0), 3);
        x.strike(0, 3);
        due("hint(0): one mark", x.hint(0), 0);
        due("hint(1)", x.hint(1), 2);
        due("hint(0) of one solution", told(BOARD).hint(0), A1);
        due("hint(1) of one solution", told(BOARD).hint(1), 1);
    }

    private static void hintOfNoSolution() {
        CrossSums x = told("board 2 1 top 2;cage sum 1 a1;cage sum 3 b1");
        due("hint(0)", x.hint(0), -2);
        due("hint(1)", x.hint(1), -2);
    }

    private static void noHint() {
        CrossSums free = told("board 2 1 top 2;across a1 any");
        due("hint(0)", free.hint(0), -2);
        due("hint(1)", free.hint(1), -2);
        CrossSums full = told("board 1 1 top 2;cage sum 1 a1;given a1 1");
        due("hint(0) when all are done", full.hint(0), -2);
        due("hint(1) when all are done", full.hint(1), -2);
        due("hint(0) of blocks", told("board 1 1 top 2;block a1").hint(0), -2);
    }

    private static void hintNone() {
        int[] others = {-1, 2, 3, MIN, MAX};
        for (int what : others) {
            due("hint(" + what + ")", told(BOARD).hint(what), -1);
            due("hint(" + what + ") of none", told("board 2 1 top 2").hint(what), -1);
        }
        due("hint(0) without a board", new CrossSums().hint(0), -1);
        due("hint(1) without a board", new CrossSums().hint(1), -1);
    }

    private static void byTheGiven() {
        test("28: By what is given alone (all MARKS else)", SentencesTest::wrongByGiven);
        test("28: CELLS of which its DIGIT is no MARK now, what 0: how many, 1: the first (-2)", SentencesTest::wrongs);
        test("28: -2: there is none such, or more than one", SentencesTest::notOneSolution);
        test("28: NONE for others, without a BOARD", SentencesTest::wrongNone);
        test("33: CELLS (as bits) that are given, but need not be", SentencesTest::idles);
        test("33: were each of them alone not given", SentencesTest::idleAlone);
        test("33: (its MARKS all), nothing PUT, all else as given", SentencesTest::idleByGiven);
        test("33: there would be just one SOLUTION yet", SentencesTest::idleOneYet);
        test("33: NONE without a BOARD", () -> due("idle()", new CrossSums().idle(), -1));
    }

    private static void wrongByGiven() {
        CrossSums x = told(BOARD);
        x.put(A1, 3);
        due("solve(1) by the marks", x.solve(1), 0);
        due("wrong(0)", x.wrong(0), 1);
        due("wrong(1)", x.wrong(1), A1);
        x.strike(C2, 3);
        due("wrong(0)", x.wrong(0), 2);
        // A wrong digit that is given leaves no solution.
        x.give(B1, 1);
        due("wrong(0) by a wrong given one", x.wrong(0), -2);
    }

    private static void wrongs() {
        CrossSums x = told(BOARD);
        due("wrong(0) of none", x.wrong(0), 0);
        due("wrong(1) of none", x.wrong(1), -2);
        x.strike(C2, 3);
        due("wrong(0)", x.wrong(0), 1);
        due("wrong(1)", x.wrong(1), C2);
        x.strike(B1, 1);
        due("wrong(0): 1 is not due there", x.wrong(0), 1);
        x.put(A1, 2);
        due("wrong(0)", x.wrong(0), 2);
        due("wrong(1)", x.wrong(1), A1);
        x.put(B1, 4);
        due("wrong(0): 4 is due there", x.wrong(0), 2);
        due("wrong(0) of blocks", told("board 1 1 top 2;block a1").wrong(0), 0);
        due("wrong(1) of blocks", told("board 1 1 top 2;block a1").wrong(1), -2);
    }

    private static void notOneSolution() {
        CrossSums two = told("board 2 1 top 2;across a1 any");
        two.put(0, 1);
        due("solve(2) by the marks", two.solve(2), 1);
        due("wrong(0) of two", two.wrong(0), -2);
        due("wrong(1) of two", two.wrong(1), -2);
        CrossSums none = told("board 2 1 top 2;across a1 sum 9");
        due("wrong(0) of none", none.wrong(0), -2);
        due("wrong(1) of none", none.wrong(1), -2);
    }

    private static void wrongNone() {
        int[] others = {-1, 2, 3, MIN, MAX};
        for (int what : others) {
            due("wrong(" + what + ")", told(BOARD).wrong(what), -1);
            due("wrong(" + what + ") of two", told("board 1 1 top 2").wrong(what), -1);
        }
        due("wrong(0) without a board", new CrossSums().wrong(0), -1);
        due("wrong(1) without a board", new CrossSums().wrong(1), -1);
    }

    private static void idles() {
        due("nothing given", told(BOARD).idle(), 0);
        due("all given", told(BOARD + ";given a1 1;given b1 4;given c1 2;given a2 2;given c2 3").idle(), 1 | 2 | 4 | 8 | 32);
        due("one of two", told("board 2 1 top 3;cage sum 3 a1;given a1 3;given b1 2").idle(), 1);
        String last = "board 6 6 top 3;block " + names(6, 0, 35, -1) + ";cage sum 3 f6;given f6 3";
        due("the last of 36 cells", told(last).idle(), 1L << 35);
    }

    private static void idleAlone() {
        CrossSums x = told("board 3 1 top 3;across a1 any;given a1 2;given b1 1;given c1 3");
        due("each alone, not all together", x.idle(), 7);
        due("two of three are needed", told("board 3 1 top 3;across a1 any;given a1 2;given b1 1").idle(), 0);
    }

    private static void idleByGiven() {
        CrossSums x = told("board 2 1 top 3;across a1 sum 4;given a1 1");
        due("two ways without it", x.idle(), 0);
        x.put(1, 3);
        due("what is put does not bear", x.idle(), 0);
        x.lift(1);
        x.strike(1, 1);
        due("what is struck does not bear", x.idle(), 0);
        CrossSums y = told("board 2 1 top 3;cage sum 3 a1;cage sum 1 b1;given a1 3");
        y.put(1, 2);
        due("a wrong one put does not bear", y.idle(), 1);
    }

    private static void idleOneYet() {
        CrossSums x = told("board 2 1 top 3;cage sum 3 a1;cage sum 1 b1;given a1 2");
        due("there is none now, one without it", x.idle(), 1);
        x.give(1, 2);
        due("there is none without either", x.idle(), 0);
        due("two without it", told("board 1 1 top 2;given a1 1").idle(), 0);
    }

    // ---- promises 29 to 32 ----

    private static void cagesCompared() {
        test("29: CELLS that are in both CAGES, as bits", SentencesTest::sharedCells);
        test("29: NONE without these (unlike ones)", SentencesTest::sharedNone);
    }

    private static CrossSums farCages() {
        return told("board 6 6 top 2;block " + names(6, 0, 20, -1) + ";cage any f6a6;cage any e6f6a5;cage any e5;cage any f6e6");
    }

    private static void sharedCells() {
        CrossSums x = farCages();
        long[][] want = {{-1, 1L << 35, 0, 1L << 35}, {1L << 35, -1, 0, 3L << 34}, {0, 0, -1, 0},
            {1L << 35, 3L << 34, 0, -1}};
        for (int k = 0; k < 4; k++) {
            for (int other = 0; other < 4; other++) {
                due("shared(" + k + ", " + other + ")", x.shared(k, other), want[k][other]);
            }
        }
    }

    private static void sharedNone() {
        CrossSums x = farCages();
        int[] no = {-1, 4, 12, MIN, MAX};
        for (int n : no) {
            due("shared(0, " + n + ")", x.shared(0, n), -1);
            due("shared(" + n + ", 0)", x.shared(n, 0), -1);
            due("shared(" + n + ", " + n + ")", x.shared(n, n), -1);
        }
    }

    private static void combos() {
        test("30: How many sets of n (1 to 6) unlike DIGITS (1 to TOP) there are with a TOTAL of a SORT (0 to 2)",
                SentencesTest::setsWithTotal);
        test("30: NONE without these, without a BOARD", SentencesTest::combosNone);
    }

    private static void setsWithTotal() {
        CrossSums x = told("board 1 1 top 7");
        int[][] want = {{0, 1, 1, 1}, {0, 1, 7, 1}, {0, 1, 8, 0}, {0, 1, 0, 0}, {0, 2, 7, 3}, {0, 2, 8, 3}, {0, 3, 10, 4},
            {0, 6, 21, 1}, {0, 6, 27, 1}, {0, 6, 28, 0}, {0, 6, 24, 1}, {1, 1, 5, 1}, {1, 2, 6, 2}, {1, 2, 12, 2},
            {1, 3, 12, 2}, {1, 6, 720, 1}, {1, 6, 5040, 1}, {1, 5, 5040, 0}, {1, 1, 0, 0}, {2, 1, 0, 7}, {2, 1, 1, 0},
            {2, 2, 0, 0}, {2, 2, 1, 6}, {2, 2, 6, 1}, {2, 3, 6, 5}, {2, 6, 5, 2}, {2, 6, 6, 5}, {2, 2, 7, 0}, {0, 3, MIN, 0},
            {0, 3, MAX, 0}};
        for (int[] w : want) {
            due("combos(" + w[0] + ", " + w[1] + ", " + w[2] + ")", x.combos(w[0], w[1], w[2]), w[3]);
        }
        CrossSums two = told("board 1 1 top 2");
        due("combos(0, 2, 3) of 2", two.combos(0, 2, 3), 1);
        due("combos(0, 1, 3) of 2", two.combos(0, 1, 3), 0);
        due("combos(0, 3, 6) of 2", two.combos(0, 3, 6), 0);
        due("combos(0, 6, 21) of 2", two.combos(0, 6, 21), 0);
        due("combos(0, 6, 21) of 6", told("board 1 1 top 6").combos(0, 6, 21), 1);
    }

    private static void combosNone() {
        CrossSums x = told("board 1 1 top 7");
        int[] noSorts = {-1, 3, 4, MIN, MAX};
        for (int sort : noSorts) {
            due("combos(" + sort + ", 1, 1)", x.combos(sort, 1, 1), -1);
            due("combos(" + sort + ", 1, 0)", x.combos(sort, 1, 0), -1);
        }
        int[] noMany = {-1, 0, 7, 8, MIN, MAX};
        for (int n : noMany) {
            due("combos(0, " + n + ", 28)", x.combos(0, n, 28), -1);
            due("combos(2, " + n + ", 0)", x.combos(2, n, 0), -1);
        }
        due("combos(0, 1, 1) without a board", new CrossSums().combos(0, 1, 1), -1);
    }

    private static void brokenBoards() {
        test("31: What 0: whether it is BROKEN (1, 0)", SentencesTest::whetherBroken);
        test("31: 1: the first CAGE without a WAY (-2)", SentencesTest::firstWithoutWay);
        test("31: 2: the first OPEN CELL without a MARK (-2)", SentencesTest::firstWithoutMark);
        test("31: NONE for others, without a BOARD", SentencesTest::brokenNone);
    }

    private static void whetherBroken() {
        due("broken(0)", told(BOARD).broken(0), 0);
        due("broken(0) of blocks", told("board 1 1 top 2;block a1").broken(0), 0);
        due("broken(0) without a way", told("board 1 1 top 2;cage sum 3 a1").broken(0), 1);
        CrossSums x = told("board 1 1 top 2");
        x.strike(0, 1);
        due("broken(0) with a mark", x.broken(0), 0);
        x.strike(0, 2);
        due("broken(0) without a mark", x.broken(0), 1);
    }

    private static void firstWithoutWay() {
        due("broken(1)", told(BOARD).broken(1), -2);
        due("broken(1) of no cage", told("board 1 1 top 2").broken(1), -2);
        CrossSums x = told("board 1 1 top 2;cage any a1;cage sum 1 a1;cage sum 3 a1;cage sum 0 a1");
        due("broken(1) of two", x.broken(1), 2);
        x.put(0, 2);
        due("broken(1) of three", x.broken(1), 1);
        CrossSums y = told("board 2 1 top 2;cage any b1;cage any alike a1");
        y.strike(0, 1);
        y.strike(0, 2);
        due("broken(1): any without a mark has no way", y.broken(1), 1);
        CrossSums z = told("board 1 1 top 2");
        z.strike(0, 1);
        z.strike(0, 2);
        due("broken(1) of a cell in no cage", z.broken(1), -2);
    }

    private static void firstWithoutMark() {
        due("broken(2)", told(BOARD).broken(2), -2);
        due("broken(2) of a broken cage", told("board 1 1 top 2;cage sum 3 a1").broken(2), -2);
        CrossSums x = told("board 3 1 top 2;block a1");
        due("broken(2): no block", x.broken(2), -2);
        x.strike(2, 1);
        x.strike(2, 2);
        due("broken(2) of c1", x.broken(2), 2);
        x.strike(1, 1);
        x.strike(1, 2);
        due("broken(2) of b1 and c1", x.broken(2), 1);
    }

    private static void brokenNone() {
        int[] others = {-1, 3, 10, MIN, MAX};
        for (int what : others) {
            due("broken(" + what + ")", told(BOARD).broken(what), -1);
        }
        for (int what = 0; what <= 2; what++) {
            due("broken(" + what + ") without a board", new CrossSums().broken(what), -1);
        }
    }

    private static void ranges() {
        test("32: The least (most false), the greatest TOTAL that a CAGE could have by its SORT", SentencesTest::leastAndMost);
        test("32: of all its MARKS, one of each CELL, none twice if it is UNLIKE", SentencesTest::rangeByMarks);
        test("32: (0 of any)", SentencesTest::rangeOfAny);
        test("32: -2: there are no such ones", SentencesTest::noRange);
        test("32: NONE without it", SentencesTest::rangeNone);
    }

    private static void range(CrossSums x, int cage, int least, int most) {
        due("range(" + cage + ", false)", x.range(cage, false), least);
        due("range(" + cage + ", true)", x.range(cage, true), most);
    }

    private static void leastAndMost() {
        CrossSums x = told("board 3 2 top 7;cage sum 99 a1b1c1a2b2c2;cage sum 99 alike a1b1c1a2b2c2;cage product 0 a1b1c1a2b2c2"
                + ";cage product 0 alike a1b1c1a2b2c2;cage span 0 a1b1c1a2b2c2;cage span 6 alike a1b1c1a2b2c2");
        int[][] want = {{21, 27}, {6, 42}, {720, 5040}, {1, 117649}, {5, 6}, {0, 6}};
        for (int k = 0; k < 6; k++) {
            range(x, k, want[k][0], want[k][1]);
        }
        x = told("board 1 1 top 7;cage sum 0 a1;cage product 0 a1;cage span 6 a1");
        range(x, 0, 1, 7);
        range(x, 1, 1, 7);
        range(x, 2, 0, 0);
    }

    private static void rangeByMarks() {
        CrossSums x = told("board 2 1 top 5;across a1 sum 9;across a1 sum 9 alike;across a1 span 0;across a1 span 0 alike"
                + ";across a1 product 9");
        x.strike(0, 1);
        x.strike(0, 5);
        x.put(1, 2);
        // a1 is 2, 3 or 4, b1 is 2.
        range(x, 0, 5, 6);
        range(x, 1, 4, 6);
        range(x, 2, 1, 2);
        range(x, 3, 0, 2);
        range(x, 4, 6, 8);
        x.give(0, 4);
        range(x, 0, 6, 6);
        range(x, 3, 2, 2);
    }

    private static void rangeOfAny() {
        CrossSums x = told("board 3 1 top 3;across a1 any;across a1 any alike;cage any a1");
        for (int k = 0; k < 3; k++) {
            range(x, k, 0, 0);
        }
    }

    private static void noRange() {
        CrossSums x = told("board 3 1 top 2;across a1 sum 6;across a1 product 6;across a1 span 1;across a1 sum 6 alike");
        for (int k = 0; k < 3; k++) {
            range(x, k, -2, -2);
        }
        range(x, 3, 3, 6);
        x.strike(1, 1);
        x.strike(1, 2);
        range(x, 3, -2, -2);
        CrossSums y = told("board 2 1 top 2;across a1 span 0 alike;across a1 product 1 alike;across a1 sum 3");
        y.put(0, 1);
        y.put(1, 1);
        range(y, 0, 0, 0);
        range(y, 1, 1, 1);
        range(y, 2, -2, -2);
    }

    private static void rangeNone() {
        CrossSums x = told(BOARD);
        int[] noCages = {-1, 4, 12, MIN, MAX};
        for (int k : noCages) {
            range(x, k, -1, -1);
        }
        range(new CrossSums(), 0, -1, -1);
    }

    // ---- promises 34 and 35 ----

    private static void letters() {
        test("34: The k-th byte of the BOARD as a TEXT", SentencesTest::lettersOfAll);
        test("34: blocks (one PART, by numbers, if there are any)", SentencesTest::lettersOfBlocks);
        test("34: CAGES by numbers (each as cage, alike ahead of its CELLS)", SentencesTest::lettersOfCages);
        test("34: given ones by numbers", SentencesTest::lettersOfGiven);
        test("34: k NONE: how many", SentencesTest::manyLetters);
        test("34: -2: it has not so many; NONE for k below NONE", SentencesTest::noLetters);
        test("34: Without a BOARD nothing", SentencesTest::lettersOfNothing);
    }

    private static void lettersOfAll() {
        CrossSums x = told(BOARD + ";cage span 0 alike b1;given c2 3;given a2 2");
        String want = "board 3 2 top 4;block b2;cage sum 7 a1 b1 c1;cage sum 3 a1 a2;cage product 6 c1 c2;cage any a2 c2"
                + ";cage span 0 alike b1;given a2 2;given c2 3";
        due("text", text(x), want);
        due("text told again", text(told(want)), want);
        x.put(A1, 1);
        x.strike(B1, 1);
        due("text with one put and one struck", text(x), want);
        x.total(0, 99);
        x.give(A1, 4);
        due("text with another total and another given", text(x), want.replace("sum 7", "sum 99").replace(";given a2", ";given a1 4;given a2"));
        due("text of the greatest", text(told("board 6 6 top 7;block " + names(6, 0, 20, -1))).substring(0, 15), "board 6 6 top 7");
    }

    private static void lettersOfBlocks() {
        due("none", text(told("board 2 1 top 2;given a1 1")), "board 2 1 top 2;given a1 1");
        due("one", text(told("board 2 1 top 2;block b1")), "board 2 1 top 2;block b1");
        due("two parts", text(told("board 2 2 top 2;block b2;block b1 a1")), "board 2 2 top 2;block a1 b1 b2");
    }

    private static void lettersOfCages() {
        due("cages", text(told("board 2 2 top 7;down b1 product 999999 alike;across a2 any alike;cage sum 0 b2a1;cage span 6 a1")),
                "board 2 2 top 7;cage product 999999 alike b1 b2;cage any alike a2 b2;cage sum 0 a1 b2;cage span 6 a1");
        int[] totals = {0, 1, 9, 10, 99, 100, 909, 1000, 9999, 10000, 99999, 100000, 900009, 999999};
        for (int n : totals) {
            CrossSums x = told("board 1 1 top 7;cage product 10000 a1");
            x.total(0, n);
            due("a product of " + n, text(x), "board 1 1 top 7;cage product " + n + " a1");
        }
    }

    private static void lettersOfGiven() {
        due("given", text(told("board 2 2 top 7;given b2 7;given a1 1;given b1 3")), "board 2 2 top 7;given a1 1;given b1 3;given b2 7");
        CrossSums x = told("board 2 1 top 2");
        x.put(0, 1);
        due("put is not given", text(x), "board 2 1 top 2");
        x.give(0, 1);
        x.give(1, 2);
        due("given later", text(x), "board 2 1 top 2;given a1 1;given b1 2");
    }

    private static void manyLetters() {
        due("letter(-1)", told("board 1 1 top 2").letter(-1), 15);
        due("letter(-1) with a part", told("board 1 1 top 2;block a1").letter(-1), 24);
        StringBuilder b = new StringBuilder("board 5 4 top 7;block a1b1c1d1");
        for (int k = 0; k < 12; k++) {
            b.append(";cage any alike e1a2b2c2d2e2");
        }
        CrossSums x = told(b.toString());
        for (int c = 4; c < 20; c++) {
            x.give(c, 7);
        }
        int length = 15 + 18 + 12 * 33 + 16 * 11;
        due("letter(-1) of more than 400", x.letter(-1), length);
        due("the last letter", x.letter(length - 1), '7');
        due("behind the last", x.letter(length), -2);
    }

    private static void noLetters() {
        CrossSums x = told("board 1 1 top 2");
        int[] behind = {15, 16, 400, 1024, MAX};
        for (int k : behind) {
            due("letter(" + k + ")", x.letter(k), -2);
        }
        due("letter(14)", x.letter(14), '2');
        due("letter(0)", x.letter(0), 'b');
        due("letter(-2)", x.letter(-2), -1);
        due("letter(min)", x.letter(MIN), -1);
    }

    private static void lettersOfNothing() {
        CrossSums x = new CrossSums();
        due("letter(-1)", x.letter(-1), 0);
        due("letter(0)", x.letter(0), -2);
        due("letter(max)", x.letter(MAX), -2);
        due("letter(-2)", x.letter(-2), -1);
    }

    private static void counts() {
        test("35: 0: WIDE, 1: HIGH, 2: TOP, 3: OPEN CELLS, 4: CAGES", SentencesTest::countsOfBoard);
        test("35: 5: given ones, 6: DONE ones, 7: MARKS of all OPEN CELLS together", SentencesTest::countsOfCells);
        test("35: 8: ACTS that can be UNDONE", SentencesTest::countOfActs);
        test("35: 9: bytes of the TAPE", SentencesTest::countOfBytes);
        test("35: 10: SHELVES on which something is KEPT, as bits", SentencesTest::countOfShelves);
        test("35: NONE for others", SentencesTest::countNone);
    }

    private static void counts(CrossSums x, int from, int... want) {
        for (int i = 0; i < want.length; i++) {
            due("count(" + (from + i) + ")", x.count(from + i), want[i]);
        }
    }

    private static void countsOfBoard() {
        counts(told(BOARD), 0, 3, 2, 4, 5, 4);
        counts(told("board 4 4 top 7"), 0, 4, 4, 7, 16, 0);
        counts(told("board 1 1 top 2;block a1"), 0, 1, 1, 2, 0, 0);
    }

    private static void countsOfCells() {
        CrossSums x = told(BOARD + ";given b1 4");
        counts(x, 5, 1, 1, 17);
        x.put(A1, 1);
        x.strike(C1, 1);
        counts(x, 5, 1, 2, 13);
        x.give(A1, 1);
        counts(x, 5, 2, 2, 13);
        counts(told("board 4 4 top 7"), 5, 0, 0, 112);
        counts(told("board 1 1 top 2;block a1"), 5, 0, 0, 0);
    }

    private static void countOfActs() {
        CrossSums x = told("board 1 1 top 2");
        for (int i = 1; i <= 12; i++) {
            x.give(0, 1 + i % 2);
            due("count(8)", x.count(8), Math.min(i, 10));
        }
        x.keep(0);
        due("count(8) behind keep", x.count(8), 10);
        x.undo();
        due("count(8) behind undo", x.count(8), 9);
        x.back(0);
        due("count(8) behind back", x.count(8), 0);
    }

    private static void countOfBytes() {
        CrossSums x = new CrossSums();
        x.feed(0, 0, 0, 0, 0);
        due("count(9)", x.count(9), 20);
        x.end(3);
        due("count(9)", x.count(9), 3);
        x.tell();
        due("count(9)", x.count(9), 0);
    }

    private static void countOfShelves() {
        CrossSums x = new CrossSums();
        x.keep(1);
        due("count(10)", x.count(10), 2);
        x.keep(1);
        due("count(10)", x.count(10), 2);
        x.keep(0);
        due("count(10)", x.count(10), 3);
        x.back(0);
        due("count(10)", x.count(10), 3);
        x = new CrossSums();
        x.keep(0);
        due("count(10)", x.count(10), 1);
    }

    private static void countNone() {
        int[] others = {-1, 11, 12, MIN, MAX};
        for (int what : others) {
            due("count(" + what + ")", told(BOARD).count(what), -1);
            due("count(" + what + ") without a board", new CrossSums().count(what), -1);
        }
    }
}
