import java.nio.charset.StandardCharsets;

/** For each promise of the document: ordinary calls, the edges that it names, and wrong arguments. */
public final class PromiseTest {
    private static final String BOARD =
            "board 3 2 top 4;block b2;across a1 sum 7;down a1 sum 3;down c1 product 6;cage any a2 c2";
    private static final int A1 = 0;
    private static final int B1 = 1;
    private static final int C1 = 2;
    private static final int A2 = 3;
    private static final int B2 = 4;
    private static final int C2 = 5;

    private static int wrong = 0;
    private static String promise = "";

    private static void due(String call, long got, long want) {
        if (got != want) {
            wrong++;
            System.out.println(promise + ": " + call + " answered " + got + ", due is " + want);
        }
    }

    private static void promise(int number, String name) {
        promise = "promise " + number + " (" + name + ")";
    }

    private static int tell(CrossSums x, String text) {
        byte[] bytes = text.getBytes(StandardCharsets.ISO_8859_1);
        x.end(0);
        for (int i = 0; i < bytes.length; i += 20) {
            int[] n = new int[5];
            for (int j = 0; j < 20 && i + j < bytes.length; j++) {
                n[j / 4] |= (bytes[i + j] & 255) << (24 - 8 * (j % 4));
            }
            x.feed(n[0], n[1], n[2], n[3], n[4]);
        }
        x.end(bytes.length);
        return x.tell();
    }

    private static CrossSums told(String text) {
        CrossSums x = new CrossSums();
        int cages = tell(x, text);
        if (cages < 0) {
            due("tell of " + text, cages, 0);
        }
        return x;
    }

    private static String text(CrossSums x) {
        StringBuilder b = new StringBuilder();
        for (int k = 0; k < x.letter(-1); k++) {
            b.append((char) x.letter(k));
        }
        return b.toString();
    }

    private static void fault(String text, int place, int kind) {
        CrossSums x = told("board 1 1 top 2;given a1 2");
        x.give(0, 1);
        due("tell of [" + text + "]", tell(x, text), -2 - (8 * place + kind));
        due("count(9) behind [" + text + "]", x.count(9), 0);
        due("cell(0, 1) behind [" + text + "]", x.cell(0, 1), 1);
        due("count(8) behind [" + text + "]", x.count(8), 1);
    }

    private static void fine(String text, String canonical) {
        CrossSums x = told(text);
        if (!text(x).equals(canonical)) {
            wrong++;
            System.out.println(promise + ": [" + text + "] was told as [" + text(x) + "], due is [" + canonical + "]");
        }
    }

    public static void main(String[] args) {
        newObject();
        tape();
        tellings();
        faultsOfWords();
        faultsOfNumbers();
        faultsOfMany();
        puts();
        lifts();
        strikes();
        gives();
        totals();
        steps();
        runs();
        makes();
        undos();
        shelves();
        cells();
        cages();
        waysCounted();
        sets();
        nexts();
        weights();
        solutions();
        agreements();
        hints();
        wrongs();
        shared();
        combos();
        broken();
        ranges();
        idle();
        letters();
        counts();
        System.out.println(wrong == 0 ? "each promise holds" : wrong + " answers are not as due");
        if (wrong != 0) {
            System.exit(1);
        }
    }

    private static void newObject() {
        promise(1, "a new object");
        due("NONE", CrossSums.NONE, -1);
        CrossSums x = new CrossSums();
        for (int what = 0; what <= 10; what++) {
            due("count(" + what + ")", x.count(what), 0);
        }
        due("cell(0, 0)", x.cell(0, 0), -1);
        due("put(0, 1)", x.put(0, 1), -1);
        due("lift(0)", x.lift(0), -1);
        due("strike(0, 1)", x.strike(0, 1), -1);
        due("give(0, 1)", x.give(0, 1), -1);
        due("total(0, 1)", x.total(0, 1), -1);
        due("step()", x.step(), -1);
        due("run()", x.run(), -1);
        due("make(5)", x.make(5), -1);
        due("cage(0, 0)", x.cage(0, 0), -1);
        due("has(0, 1)", x.has(0, 1), -1);
        due("could(0, 0)", x.could(0, 0), -1);
        due("must(0)", x.must(0), -1);
        due("sets(0, -1)", x.sets(0, -1), -1);
        due("next(0)", x.next(0), -1);
        due("weight(0)", x.weight(0), -1);
        due("weight(10)", x.weight(10), -1);
        due("solve(1)", x.solve(1), -1);
        due("solution(0, 0)", x.solution(0, 0), -1);
        due("agree(0)", x.agree(0), -1);
        due("hint(0)", x.hint(0), -1);
        due("wrong(0)", x.wrong(0), -1);
        due("shared(0, 1)", x.shared(0, 1), -1);
        due("combos(0, 1, 1)", x.combos(0, 1, 1), -1);
        due("broken(0)", x.broken(0), -1);
        due("range(0, true)", x.range(0, true), -1);
        due("idle()", x.idle(), -1);
        due("letter(-1)", x.letter(-1), 0);
        due("letter(0)", x.letter(0), -2);
    }

    private static void tape() {
        promise(2, "feed");
        CrossSums x = new CrossSums();
        for (int many = 20; many <= 400; many += 20) {
            due("feed", x.feed(-1, 0, Integer.MIN_VALUE, Integer.MAX_VALUE, 7), many);
        }
        due("feed of a 401st byte", x.feed(0, 0, 0, 0, 0), -1);
        due("count(9)", x.count(9), 400);
        promise(3, "end");
        due("end(401)", x.end(401), -1);
        due("end(-1)", x.end(-1), -1);
        due("end(min)", x.end(Integer.MIN_VALUE), -1);
        due("count(9)", x.count(9), 400);
        due("end(400)", x.end(400), 400);
        due("end(381)", x.end(381), 381);
        promise(2, "feed");
        due("feed behind 381", x.feed(0, 0, 0, 0, 0), -1);
        due("count(9)", x.count(9), 381);
        due("end(380)", x.end(380), 380);
        due("feed behind 380", x.feed(0, 0, 0, 0, 0), 400);
        promise(3, "end");
        due("end(0)", x.end(0), 0);
        due("end(1)", x.end(1), -1);
        // "board 2 3 top 4" by hand, the highest byte first; what comes later stands behind.
        due("feed", x.feed(0x626f6172, 0x64203220, 0x3320746f, 0x70203434, 0), 20);
        due("end(15)", x.end(15), 15);
        due("tell()", x.tell(), 0);
        due("count(0)", x.count(0), 2);
        due("count(1)", x.count(1), 3);
        due("count(2)", x.count(2), 4);
    }

    private static void tellings() {
        promise(4, "tell");
        CrossSums x = new CrossSums();
        due("tell()", tell(x, BOARD), 4);
        due("count(9)", x.count(9), 0);
        x.keep(1);
        x.put(A1, 1);
        due("tell()", tell(x, "board 6 6 top 7;block " + cellsFrom(6, 16, 36)), 0);
        due("count(8)", x.count(8), 0);
        due("count(3)", x.count(3), 16);
        due("undo()", x.undo(), -1);
        due("back(1)", x.back(1), 4);
        fine("board1 1top2", "board 1 1 top 2");
        fine("  board  1 1  top 2  ", "board 1 1 top 2");
        fine("board 01 002 top 0007", "board 1 2 top 7");
        fine("board 3 1 top 2 ;cage any c1a1", "board 3 1 top 2;cage any a1 c1");
        fine("board 3 1 top 2;cage sum 99alike b01 a1", "board 3 1 top 2;cage sum 99 alike a1 b1");
        fine("board 2 2 top 3;cage product 999999 a1;cage span 6 a1;cage sum 0 a1",
                "board 2 2 top 3;cage product 999999 a1;cage span 6 a1;cage sum 0 a1");
        fine("board 4 2 top 5;block c1;across a1 sum 5;across d1 any alike;down c2 span 1;across a2 any",
                "board 4 2 top 5;block c1;cage sum 5 a1 b1;cage any alike d1;cage span 1 c2;cage any a2 b2 c2 d2");
        fine("board 2 3 top 5;block b3;down b1 sum 5;down a2 sum 6 alike;given b2 5;given a1 1",
                "board 2 3 top 5;block b3;cage sum 5 b1 b2;cage sum 6 alike a2 a3;given a1 1;given b2 5");
        fine("board 1 4 top 5;down a2 sum 5", "board 1 4 top 5;cage sum 5 a2 a3 a4");
        fine("board 2 1 top 2;given a1 1;cage any a1;block b1", "board 2 1 top 2;block b1;cage any a1;given a1 1");
        fine("board 1 1 top 2;block a1", "board 1 1 top 2;block a1");
    }

    private static String cellsFrom(int wide, int from, int to) {
        StringBuilder b = new StringBuilder();
        for (int c = from; c < to; c++) {
            b.append((char) ('a' + c % wide)).append(c / wide + 1);
        }
        return b.toString();
    }

    private static void faultsOfWords() {
        promise(4, "tell");
        fault("", 0, 1);
        fault("   ", 3, 1);
        fault("boar", 0, 1);
        fault(" boards 1 1 top 2", 1, 1);
        fault("Board 1 1 top 2", 0, 1);
        fault("board", 5, 1);
        fault("board ", 6, 1);
        fault("board x", 6, 1);
        fault("board 1", 7, 1);
        fault("board 1 1", 9, 1);
        fault("board 1 1 2", 10, 1);
        fault("board 1 1 tops 2", 10, 1);
        fault("board 1 1 top", 13, 1);
        fault("board 1 1 top 2 block a1", 16, 1);
        fault("board 1 1 top 2,", 15, 1);
        fault("board 1 1 top 2\u00e9", 15, 1);
        fault("board 1 1 top 2;", 16, 1);
        fault("board 1 1 top 2; ", 17, 1);
        fault("board 1 1 top 2;;", 16, 1);
        fault("board 1 1 top 2;blocks a1", 16, 1);
        fault("board 1 1 top 2;block", 21, 1);
        fault("board 1 1 top 2;block;", 21, 1);
        fault("board 1 1 top 2;block b1", 22, 1);
        fault("board 1 1 top 2;block a", 23, 1);
        fault("board 1 1 top 2;block a 1", 23, 1);
        fault("board 1 1 top 2;given a1", 24, 1);
        fault("board 1 1 top 2;given a1;", 24, 1);
        fault("board 1 1 top 2;given a1 1 1", 27, 1);
        fault("board 1 1 top 2;cage", 20, 1);
        fault("board 1 1 top 2;cage times 2 a1", 21, 1);
        fault("board 1 1 top 2;cage anya1", 21, 1);
        fault("board 1 1 top 2;cage sum a1", 25, 1);
        fault("board 1 1 top 2;cage any", 24, 1);
        fault("board 1 1 top 2;cage any alike", 30, 1);
        fault("board 1 1 top 2;cage any 5", 25, 1);
        fault("board 1 1 top 2;cage any a1 alike", 29, 1);
        fault("board 1 1 top 2;across any a1", 24, 1);
        fault("board 1 1 top 2;across a1", 25, 1);
        fault("board 1 1 top 2;across a1 any a1", 30, 1);
        fault("board 1 1 top 2;down a1 any alike alike", 34, 1);
    }

    private static void faultsOfNumbers() {
        promise(4, "tell");
        fault("board 0 1 top 2", 6, 2);
        fault("board 7 1 top 2", 6, 2);
        fault("board 1 0 top 2", 8, 2);
        fault("board 1 7 top 2", 8, 2);
        fault("board 11 top 2", 6, 2);
        fault("board 1 1 top 1", 14, 2);
        fault("board 1 1 top 8", 14, 2);
        fault("board 1 1 top 99999999999999999999", 14, 2);
        fault("board 2 2 top 2;block a0", 23, 2);
        fault("board 2 2 top 2;block a3", 23, 2);
        fault("board 2 2 top 2;block a1 a1", 26, 2);
        fault("board 2 2 top 2;cage any b2;block b2", 35, 2);
        fault("board 2 2 top 2;given b2 1;block b2", 34, 2);
        fault("board 2 2 top 2;block b2;given b2 1", 32, 2);
        fault("board 2 2 top 2;given b2 1;given b2 2", 34, 2);
        fault("board 2 2 top 2;given b2 0", 25, 2);
        fault("board 2 2 top 2;given b2 3", 25, 2);
        fault("board 2 2 top 2;block b2;cage any a1 b2", 38, 2);
        fault("board 2 2 top 2;cage any a1 a2 a1", 32, 2);
        fault("board 2 2 top 2;block b2;across b2 any", 33, 2);
        fault("board 2 2 top 2;down a5 any", 22, 2);
        fault("board 2 2 top 2;cage sum 100 a1", 25, 2);
        fault("board 2 2 top 2;cage product 1000000 a1", 29, 2);
        fault("board 2 2 top 2;cage span 7 a1", 26, 2);
    }

    private static void faultsOfMany() {
        promise(4, "tell");
        StringBuilder twelve = new StringBuilder("board 3 3 top 2");
        for (int k = 0; k < 12; k++) {
            twelve.append(k % 2 == 0 ? ";cage any a1" : ";down b1 any");
        }
        CrossSums x = new CrossSums();
        due("tell of twelve cages", tell(x, twelve.toString()), 12);
        int place = twelve.length() + 1;
        fault(twelve + ";cage any a1", place, 3);
        fault(twelve + "; across any", place + 1, 3);
        fault(twelve + ";down", place, 3);
        fault(twelve + ";cages", place, 1);
        due("tell of twelve cages and a block", tell(x, twelve + ";block c3"), 12);
        String six = "board 4 4 top 2;cage any a1b1c1d1a2b2";
        due("tell of six cells", tell(x, six), 1);
        fault(six + " c2", 38, 3);
        fault(six + "a1", 37, 3);
        fault(six + "a", 37, 3);
        fault(six + "e1", 37, 1);
        fault("board 5 4 top 3", 15, 4);
        fault("board 5 4 top 3 ", 16, 4);
        fault("board 5 4 top 3;block a1 b1 c1", 30, 4);
        fault("board 5 4 top 3;", 16, 1);
        due("tell of 16", tell(x, "board 5 4 top 3;block a1 b1 c1 d1"), 0);
    }

    private static void puts() {
        promise(5, "put");
        CrossSums x = told(BOARD + ";given b1 4");
        due("put in a block", x.put(B2, 1), -1);
        due("put(-1, 1)", x.put(-1, 1), -1);
        due("put(6, 1)", x.put(6, 1), -1);
        due("put(max, 1)", x.put(Integer.MAX_VALUE, 1), -1);
        due("put(0, 0)", x.put(A1, 0), -1);
        due("put(0, 5)", x.put(A1, 5), -1);
        due("put(0, 33)", x.put(A1, 33), -1);
        due("put in a given one", x.put(B1, 3), -2);
        due("strike(0, 3)", x.strike(A1, 3), 3);
        due("put of no mark", x.put(A1, 3), -3);
        due("put(0, 2)", x.put(A1, 2), 1);
        due("put again", x.put(A1, 2), -2);
        due("cell(0, 3)", x.cell(A1, 3), 4);
        due("cell(0, 1)", x.cell(A1, 1), 2);
        due("count(8)", x.count(8), 2);
    }

    private static void lifts() {
        promise(6, "lift");
        CrossSums x = told(BOARD + ";given b1 4");
        due("lift of nothing", x.lift(A1), -2);
        due("lift of a given one", x.lift(B1), -2);
        due("lift of a block", x.lift(B2), -1);
        due("lift(6)", x.lift(6), -1);
        due("lift(-1)", x.lift(-1), -1);
        x.strike(A1, 3);
        x.put(A1, 2);
        due("lift(0)", x.lift(A1), 2);
        due("cell(0, 3)", x.cell(A1, 3), 30);
        due("cell(0, 1)", x.cell(A1, 1), 0);
        due("count(8)", x.count(8), 3);
        x.put(A1, 2);
        x.give(A1, 2);
        due("lift of what was put ahead of the given", x.lift(A1), -2);
    }

    private static void strikes() {
        promise(7, "strike");
        CrossSums x = told(BOARD + ";given b1 4");
        due("strike in a block", x.strike(B2, 1), -1);
        due("strike(6, 1)", x.strike(6, 1), -1);
        due("strike(0, 0)", x.strike(A1, 0), -1);
        due("strike(0, 5)", x.strike(A1, 5), -1);
        due("strike in a given one", x.strike(B1, 3), -2);
        due("strike in a given one", x.strike(B1, 4), -2);
        due("strike(0, 4)", x.strike(A1, 4), 3);
        due("strike(0, 4)", x.strike(A1, 4), -3);
        due("strike(0, 1)", x.strike(A1, 1), 2);
        due("strike(0, 2)", x.strike(A1, 2), 1);
        due("strike(0, 3)", x.strike(A1, 3), 0);
        due("cell(0, 3)", x.cell(A1, 3), 0);
        due("count(8)", x.count(8), 4);
        x.put(C1, 1);
        due("strike where one is put", x.strike(C1, 1), -2);
    }

    private static void gives() {
        promise(8, "give");
        CrossSums x = told(BOARD);
        due("give in a block", x.give(B2, 1), -1);
        due("give(6, 1)", x.give(6, 1), -1);
        due("give(-1, 1)", x.give(-1, 1), -1);
        due("give(0, 0)", x.give(A1, 0), -1);
        due("give(0, 5)", x.give(A1, 5), -1);
        x.strike(A1, 3);
        due("give of no mark", x.give(A1, 3), 1);
        due("give again", x.give(A1, 3), -2);
        due("cell(0, 3)", x.cell(A1, 3), 8);
        due("give of another", x.give(A1, 4), 1);
        due("cell(0, 1)", x.cell(A1, 1), 4);
        x.put(B1, 2);
        due("give where the same is put", x.give(B1, 2), 1);
        due("cell(1, 2)", x.cell(B1, 2), 1);
        due("count(5)", x.count(5), 2);
        due("count(6)", x.count(6), 2);
        due("count(8)", x.count(8), 5);
    }

    private static void totals() {
        promise(9, "total");
        CrossSums x = told("board 3 1 top 4;across a1 sum 7;across a1 product 8;across a1 span 2;across a1 any");
        due("total(0, 100)", x.total(0, 100), -1);
        due("total(0, -1)", x.total(0, -1), -1);
        due("total(0, 7)", x.total(0, 7), -2);
        due("total(0, 99)", x.total(0, 99), 7);
        due("total(0, 0)", x.total(0, 0), 99);
        due("total(1, 1000000)", x.total(1, 1000000), -1);
        due("total(1, 999999)", x.total(1, 999999), 8);
        due("total(2, 7)", x.total(2, 7), -1);
        due("total(2, 6)", x.total(2, 6), 2);
        due("total(3, 0)", x.total(3, 0), -1);
        due("total(4, 1)", x.total(4, 1), -1);
        due("total(-1, 1)", x.total(-1, 1), -1);
        due("cage(2, 1)", x.cage(2, 1), 6);
        due("count(8)", x.count(8), 4);
    }

    private static void steps() {
        promise(10, "step");
        CrossSums x = told("board 2 1 top 3;across a1 sum 5");
        // 2 and 3: 1 is in no way of a1, then of b1.
        due("step()", x.step(), 2);
        due("cell(0, 3)", x.cell(0, 3), 12);
        due("step()", x.step(), 2);
        due("cell(1, 3)", x.cell(1, 3), 12);
        due("step()", x.step(), 0);
        due("count(8)", x.count(8), 2);
        x.strike(1, 3);
        // ALONE is ahead of WAYS.
        due("step()", x.step(), 1);
        due("cell(1, 1)", x.cell(1, 1), 2);
        due("step()", x.step(), 2);
        due("cell(0, 3)", x.cell(0, 3), 8);
        due("step()", x.step(), 1);
        due("step()", x.step(), 0);
        x.total(0, 4);
        due("step()", x.step(), -2);
        due("count(8)", x.count(8), 7);
        x = told("board 1 1 top 2");
        x.strike(0, 1);
        x.strike(0, 2);
        due("step() without marks", x.step(), -2);
        // A DIGIT that must be in one CELL alone, and twins: WAYS is there ahead of both.
        x = told("board 3 1 top 3;across a1 any");
        x.strike(1, 3);
        x.strike(2, 3);
        due("next(0)", x.next(0), 2);
        due("next(2)", x.next(2), 0);
        due("next(3)", x.next(3), 1);
        due("run()", x.run(), 3);
        due("cell(0, 1)", x.cell(0, 1), 3);
        due("cell(1, 3)", x.cell(1, 3), 6);
    }

    private static void runs() {
        promise(11, "run");
        CrossSums x = told(BOARD);
        due("run()", x.run(), 20);
        due("count(8)", x.count(8), 1);
        due("run()", x.run(), 0);
        due("count(8)", x.count(8), 1);
        due("cell(0, 1)", x.cell(A1, 1), 1);
        due("cell(5, 1)", x.cell(C2, 1), 3);
        due("undo()", x.undo(), 0);
        due("count(7)", x.count(7), 20);
        x.put(A1, 3);
        due("run()", x.run(), -2);
        due("count(8)", x.count(8), 1);
        // It breaks on the way: a1 is 1 by the one cage, 2 by the other.
        x = told("board 1 1 top 2;across a1 sum 1;across a1 sum 2");
        due("run()", x.run(), 1);
        due("broken(0)", x.broken(0), 1);
        due("broken(1)", x.broken(1), 1);
        due("run()", x.run(), -2);
    }

    private static void makes() {
        promise(12, "make");
        CrossSums x = told("board 3 1 top 2;across a1 any");
        due("three unlike of two", x.make(1), -2);
        due("count(8)", x.count(8), 0);
        x = told("board 4 4 top 3;across a4 any");
        due("four unlike of three behind twelve free ones", x.make(1), -2);
        x = told("board 1 1 top 2;block a1");
        due("nothing open", x.make(1), 0);
        due("count(8)", x.count(8), 1);
        // From seed 0 the draws are 0, 54236 and 42756 of 6, 1 more each.
        x = told("board 3 1 top 6");
        x.put(0, 5);
        due("make(0)", x.make(0), 3);
        due("cell(0, 1)", x.cell(0, 1), 1);
        due("cell(1, 1)", x.cell(1, 1), 3);
        due("cell(2, 1)", x.cell(2, 1), 1);
        due("cell(2, 2)", x.cell(2, 2), 1);
        due("count(8)", x.count(8), 2);
        due("undo()", x.undo(), 1);
        due("cell(0, 1)", x.cell(0, 1), 5);
        // From seed 8 both draws are 1 of 3: 2 stands in a1, 3 is the next one in b1, and it is b1 that needs it.
        x = told("board 2 1 top 3;across a1 any;cage sum 0 a1");
        due("make(8)", x.make(8), 1);
        due("cage(1, 1)", x.cage(1, 1), 2);
        due("cell(0, 2)", x.cell(0, 2), 0);
        due("cell(1, 1)", x.cell(1, 1), 3);
        due("cell(1, 2)", x.cell(1, 2), 1);
        x = told("board 2 2 top 2;across a1 sum 9;across a2 span 0 alike;cage product 5 alike a1 a2;cage any b1;given a1 2");
        int given = x.make(77);
        due("solve(2)", x.solve(2), 1);
        due("count(5)", x.count(5), given);
        due("cage(0, 1)", x.cage(0, 1), 3);
        due("cage(3, 1)", x.cage(3, 1), 0);
        due("cage(2, 1)", x.cage(2, 1), x.solution(0, 0) * x.solution(0, 2));
        due("cage(1, 1)", x.cage(1, 1), Math.abs(x.solution(0, 2) - x.solution(0, 3)));
        due("idle()", x.idle() & 1, 0);
    }

    private static void undos() {
        promise(13, "undo");
        CrossSums x = told(BOARD);
        due("undo()", x.undo(), -1);
        for (int i = 0; i < 6; i++) {
            x.put(A1, 1 + i % 4);
            x.lift(A1);
        }
        due("count(8)", x.count(8), 10);
        x.put(A1, 4);
        due("count(8)", x.count(8), 10);
        for (int left = 9; left >= 0; left--) {
            due("undo()", x.undo(), left);
            due("cell(0, 1)", x.cell(A1, 1), left % 2 == 0 ? (left / 2 + 1) % 4 + 1 : 0);
        }
        due("undo()", x.undo(), -1);
        x.give(A1, 2);
        x.total(0, 9);
        x.strike(B1, 1);
        due("undo()", x.undo(), 2);
        due("cell(1, 3)", x.cell(B1, 3), 30);
        due("undo()", x.undo(), 1);
        due("cage(0, 1)", x.cage(0, 1), 7);
        due("undo()", x.undo(), 0);
        due("cell(0, 2)", x.cell(A1, 2), 0);
    }

    private static void shelves() {
        promise(14, "keep");
        CrossSums x = new CrossSums();
        due("keep(2)", x.keep(2), -1);
        due("keep(-1)", x.keep(-1), -1);
        due("keep(0) of nothing", x.keep(0), 0);
        due("count(10)", x.count(10), 1);
        tell(x, BOARD);
        x.put(A1, 2);
        due("keep(1)", x.keep(1), 4);
        due("count(10)", x.count(10), 3);
        due("count(8)", x.count(8), 1);
        promise(15, "back");
        due("back(2)", x.back(2), -1);
        due("back(-1)", x.back(-1), -1);
        x.lift(A1);
        x.feed(0, 0, 0, 0, 0);
        due("back(1)", x.back(1), 4);
        due("cell(0, 1)", x.cell(A1, 1), 2);
        due("count(8)", x.count(8), 0);
        due("count(9)", x.count(9), 20);
        due("count(10)", x.count(10), 3);
        due("undo()", x.undo(), -1);
        due("back(0)", x.back(0), 0);
        due("count(0)", x.count(0), 0);
        due("back(0) of a new one", new CrossSums().back(0), -2);
        due("back(1) of a new one", new CrossSums().back(1), -2);
        promise(14, "keep");
        due("back(1)", x.back(1), 4);
        x.lift(A1);
        x.keep(1);
        x.put(A1, 3);
        x.back(1);
        due("kept anew", x.cell(A1, 1), 0);
    }

    private static void cells() {
        promise(16, "cell");
        CrossSums x = told(BOARD + ";given b1 4");
        x.put(A1, 1);
        int[][] want = {{1, 1, 0, 2, 3}, {1, 4, 1, 16, 1}, {1, 0, 0, 30, 5}, {1, 0, 0, 30, 10}, {0, 0, 0, 0, 0}, {1, 0, 0, 30, 12}};
        for (int c = 0; c < 6; c++) {
            for (int what = 0; what < 5; what++) {
                due("cell(" + c + ", " + what + ")", x.cell(c, what), want[c][what]);
            }
        }
        due("cell(0, 5)", x.cell(0, 5), -1);
        due("cell(0, -1)", x.cell(0, -1), -1);
        due("cell(6, 0)", x.cell(6, 0), -1);
        due("cell(-1, 0)", x.cell(-1, 0), -1);
    }

    private static void cages() {
        promise(17, "cage");
        CrossSums x = told(BOARD + ";cage span 2 alike c2 a1 b1;given b1 4");
        x.put(A1, 1);
        int[][] want = {{0, 7, 3, 1, 2, 1}, {0, 3, 2, 1, 1, 1}, {1, 6, 2, 1, 0, 2}, {3, 0, 2, 1, 0, 12}, {2, 2, 3, 0, 2, 0}};
        for (int k = 0; k < 5; k++) {
            for (int what = 0; what < 6; what++) {
                due("cage(" + k + ", " + what + ")", x.cage(k, what), want[k][what]);
            }
        }
        due("cage(4, 10)", x.cage(4, 10), A1);
        due("cage(4, 11)", x.cage(4, 11), B1);
        due("cage(4, 12)", x.cage(4, 12), C2);
        due("cage(4, 13)", x.cage(4, 13), -1);
        due("cage(4, 6)", x.cage(4, 6), -1);
        due("cage(4, 9)", x.cage(4, 9), -1);
        due("cage(4, -1)", x.cage(4, -1), -1);
        due("cage(4, min)", x.cage(4, Integer.MIN_VALUE), -1);
        due("cage(5, 0)", x.cage(5, 0), -1);
        due("cage(-1, 0)", x.cage(-1, 0), -1);
        x = told("board 3 2 top 7;cage any alike a1b1c1a2b2c2;cage sum 24 alike a1b1c1a2b2c2;cage product 720 alike a1b1c1a2b2c2");
        due("all ways", x.cage(0, 5), 117649);
        due("ways of 24", x.cage(1, 5), 9331);
    }

    private static void waysCounted() {
        CrossSums x = told("board 3 1 top 4;across a1 sum 6;across a1 sum 6 alike;cage sum 9 a1;cage any b1");
        promise(18, "has");
        // Unlike: 1 2 3 in six orders. Alike: 4 1 1 and 3 2 1 and 2 2 2: 3 + 6 + 1.
        due("has(0, 1)", x.has(0, 1), 6);
        due("has(0, 4)", x.has(0, 4), 0);
        due("has(1, 1)", x.has(1, 1), 9);
        due("has(1, 2)", x.has(1, 2), 7);
        due("has(1, 4)", x.has(1, 4), 3);
        due("has(2, 1)", x.has(2, 1), 0);
        due("has(0, 0)", x.has(0, 0), -1);
        due("has(0, 5)", x.has(0, 5), -1);
        due("has(4, 1)", x.has(4, 1), -1);
        due("has(-1, 1)", x.has(-1, 1), -1);
        promise(19, "could");
        due("could(0, 0)", x.could(0, 0), 14);
        due("could(1, 2)", x.could(1, 2), 30);
        due("could(2, 0)", x.could(2, 0), 0);
        due("could(2, 1)", x.could(2, 1), -1);
        due("could(0, 3)", x.could(0, 3), -1);
        due("could(0, -1)", x.could(0, -1), -1);
        due("could(4, 0)", x.could(4, 0), -1);
        x.strike(0, 1);
        x.strike(0, 2);
        due("could(0, 1)", x.could(0, 1), 6);
        due("could(1, 1)", x.could(1, 1), 6);
        promise(20, "must");
        due("must(0)", x.must(0), 14);
        due("must(1)", x.must(1), 2);
        due("must(2)", x.must(2), 0);
        due("must(3)", x.must(3), 0);
        due("must(4)", x.must(4), -1);
        due("must(-1)", x.must(-1), -1);
    }

    private static void sets() {
        promise(21, "sets");
        CrossSums x = told("board 3 1 top 4;across a1 sum 6;across a1 sum 6 alike;cage sum 9 a1;cage sum 5 a1 b1");
        due("sets(0, -1)", x.sets(0, -1), 1);
        due("sets(0, 0)", x.sets(0, 0), 14);
        due("sets(1, -1)", x.sets(1, -1), 3);
        due("sets(1, 0)", x.sets(1, 0), 4);
        due("sets(1, 1)", x.sets(1, 1), 14);
        due("sets(1, 2)", x.sets(1, 2), 18);
        due("sets(1, 3)", x.sets(1, 3), -2);
        due("sets(2, -1)", x.sets(2, -1), 0);
        due("sets(2, 0)", x.sets(2, 0), -2);
        due("sets(3, 0)", x.sets(3, 0), 12);
        due("sets(3, 1)", x.sets(3, 1), 18);
        due("sets(3, max)", x.sets(3, Integer.MAX_VALUE), -2);
        due("sets(0, -2)", x.sets(0, -2), -1);
        due("sets(4, 0)", x.sets(4, 0), -1);
        due("sets(-1, -1)", x.sets(-1, -1), -1);
    }

    private static void nexts() {
        promise(22, "next");
        CrossSums x = told("board 3 1 top 3;cage sum 5 b1 c1");
        due("next(0)", x.next(0), 2);
        due("next(1)", x.next(1), 0);
        due("next(2)", x.next(2), 1);
        due("next(3)", x.next(3), 1);
        due("next(4)", x.next(4), -1);
        due("next(-1)", x.next(-1), -1);
        due("count(8)", x.count(8), 0);
        x.strike(0, 1);
        x.strike(0, 3);
        due("next(0)", x.next(0), 1);
        due("next(1)", x.next(1), -2);
        due("next(2)", x.next(2), 0);
        due("next(3)", x.next(3), 2);
        x.total(0, 9);
        due("next(0)", x.next(0), 0);
        due("next(1)", x.next(1), -2);
        due("next(2)", x.next(2), -2);
        due("next(3)", x.next(3), -2);
        due("next(4)", x.next(4), -1);
    }

    private static void weights() {
        promise(23, "weight");
        CrossSums x = told("board 3 1 top 3;block a1;cage sum 5 b1 c1");
        due("weight(0)", x.weight(0), 2);
        due("weight(1)", x.weight(1), 4);
        due("weight(2)", x.weight(2), 2);
        due("weight(3)", x.weight(3), 0);
        due("weight(10)", x.weight(10), 0);
        due("weight(11)", x.weight(11), 12);
        due("weight(12)", x.weight(12), 12);
        due("weight(13)", x.weight(13), -1);
        due("weight(4)", x.weight(4), -1);
        due("weight(9)", x.weight(9), -1);
        due("weight(-1)", x.weight(-1), -1);
        due("weight(min)", x.weight(Integer.MIN_VALUE), -1);
        due("cell(1, 3)", x.cell(1, 3), 14);
        x.put(1, 2);
        due("weight(0)", x.weight(0), 3);
        due("weight(1)", x.weight(1), 5);
        due("weight(2)", x.weight(2), 0);
        x.total(0, 9);
        due("weight(0)", x.weight(0), 0);
        due("weight(1)", x.weight(1), 0);
        due("weight(2)", x.weight(2), 1);
        due("weight(3)", x.weight(3), 1);
        due("weight(12)", x.weight(12), 14);
        x = told("board 1 1 top 2;across a1 sum 1;across a1 sum 2");
        due("weight(0)", x.weight(0), 1);
        due("weight(3)", x.weight(3), 1);
        due("count(8)", x.count(8), 0);
    }

    private static void solutions() {
        promise(24, "solve");
        CrossSums x = told("board 3 2 top 7;block a1;cage sum 4 b1 c1;cage sum 99 a2");
        due("solve(1)", x.solve(1), 0);
        x.total(1, 5);
        due("solve(1)", x.solve(1), 1);
        due("solve(50)", x.solve(50), 50);
        due("solve(49)", x.solve(49), 49);
        due("solve(0)", x.solve(0), -1);
        due("solve(51)", x.solve(51), -1);
        due("solve(-1)", x.solve(-1), -1);
        x.give(4, 2);
        due("solve(50)", x.solve(50), 14);
        x.strike(5, 7);
        due("solve(50)", x.solve(50), 12);
        due("solve of a board of blocks", told("board 1 1 top 2;block a1").solve(50), 1);
        promise(25, "solution");
        due("solution(0, 1)", x.solution(0, 1), 1);
        due("solution(0, 2)", x.solution(0, 2), 3);
        due("solution(0, 5)", x.solution(0, 5), 1);
        due("solution(5, 5)", x.solution(5, 5), 6);
        due("solution(6, 1)", x.solution(6, 1), 3);
        due("solution(6, 5)", x.solution(6, 5), 1);
        due("solution(9, 5)", x.solution(9, 5), 4);
        due("solution(10, 5)", x.solution(10, 5), -1);
        due("solution(-1, 5)", x.solution(-1, 5), -1);
        due("solution(0, 0)", x.solution(0, 0), -1);
        due("solution(0, 6)", x.solution(0, 6), -1);
        x.give(5, 2);
        due("solution(1, 1)", x.solution(1, 1), 3);
        due("solution(2, 1)", x.solution(2, 1), -2);
        due("solution(2, 0)", x.solution(2, 0), -1);
    }

    private static void agreements() {
        promise(26, "agree");
        CrossSums x = told("board 3 2 top 7;block a1;cage sum 4 b1 c1;cage sum 5 a2");
        due("agree(0)", x.agree(0), -1);
        due("agree(1)", x.agree(1), 10);
        due("agree(2)", x.agree(2), 10);
        due("agree(3)", x.agree(3), 32);
        due("agree(4)", x.agree(4), 254);
        due("agree(6)", x.agree(6), -1);
        due("agree(-1)", x.agree(-1), -1);
        x.strike(4, 7);
        x.put(1, 3);
        due("agree(1)", x.agree(1), 8);
        due("agree(2)", x.agree(2), 2);
        due("agree(4)", x.agree(4), 126);
        x.total(1, 9);
        due("agree(4)", x.agree(4), 0);
    }

    private static void hints() {
        promise(27, "hint");
        CrossSums x = told("board 3 2 top 7;block a1;cage sum 4 b1 c1;cage sum 5 a2");
        due("hint(0)", x.hint(0), 3);
        due("hint(1)", x.hint(1), 5);
        due("hint(2)", x.hint(2), -1);
        due("hint(-1)", x.hint(-1), -1);
        x.put(3, 5);
        due("hint(0)", x.hint(0), -2);
        due("hint(1)", x.hint(1), -2);
        x.give(1, 3);
        due("hint(0)", x.hint(0), 2);
        due("hint(1)", x.hint(1), 1);
        x.total(0, 99);
        due("hint(0) without solutions", x.hint(0), -2);
        due("hint(2)", x.hint(2), -1);
    }

    private static void wrongs() {
        promise(28, "wrong");
        CrossSums x = told("board 3 1 top 3;across a1 any;given a1 2");
        due("two solutions", x.wrong(0), -2);
        due("two solutions", x.wrong(1), -2);
        x.give(1, 1);
        due("wrong(0)", x.wrong(0), 0);
        due("wrong(1)", x.wrong(1), -2);
        x.strike(2, 3);
        due("wrong(0)", x.wrong(0), 1);
        due("wrong(1)", x.wrong(1), 2);
        due("wrong(2)", x.wrong(2), -1);
        due("wrong(-1)", x.wrong(-1), -1);
        x = told("board 3 1 top 3;across a1 sum 6;cage sum 1 a1;cage sum 2 b1");
        x.put(0, 3);
        x.put(1, 1);
        due("what is put counts not", x.wrong(0), 2);
        due("wrong(1)", x.wrong(1), 0);
        x.total(0, 7);
        due("no solution", x.wrong(0), -2);
        due("no solution", x.wrong(1), -2);
    }

    private static void shared() {
        promise(29, "shared");
        CrossSums x = told("board 6 6 top 2;block " + cellsFrom(6, 0, 20) + ";cage any f6 a6;cage any e6 f6 a5;cage any e5");
        due("shared(0, 1)", x.shared(0, 1), 1L << 35);
        due("shared(1, 0)", x.shared(1, 0), 1L << 35);
        due("shared(0, 2)", x.shared(0, 2), 0);
        due("shared(1, 1)", x.shared(1, 1), -1);
        due("shared(0, 3)", x.shared(0, 3), -1);
        due("shared(3, 0)", x.shared(3, 0), -1);
        due("shared(-1, 0)", x.shared(-1, 0), -1);
    }

    private static void combos() {
        promise(30, "combos");
        CrossSums x = told("board 1 1 top 7");
        due("combos(0, 3, 10)", x.combos(0, 3, 10), 4);
        due("combos(0, 6, 21)", x.combos(0, 6, 21), 1);
        due("combos(0, 1, 7)", x.combos(0, 1, 7), 1);
        due("combos(1, 2, 12)", x.combos(1, 2, 12), 2);
        due("combos(1, 6, 720)", x.combos(1, 6, 720), 1);
        due("combos(2, 3, 6)", x.combos(2, 3, 6), 5);
        due("combos(2, 1, 0)", x.combos(2, 1, 0), 7);
        due("combos(2, 2, 0)", x.combos(2, 2, 0), 0);
        due("combos(0, 2, 99)", x.combos(0, 2, 99), 0);
        due("combos(0, 2, -5)", x.combos(0, 2, -5), 0);
        due("combos(3, 2, 0)", x.combos(3, 2, 0), -1);
        due("combos(-1, 2, 3)", x.combos(-1, 2, 3), -1);
        due("combos(0, 0, 0)", x.combos(0, 0, 0), -1);
        due("combos(0, 7, 28)", x.combos(0, 7, 28), -1);
        x = told("board 1 1 top 2");
        due("combos(0, 2, 3)", x.combos(0, 2, 3), 1);
        due("combos(0, 3, 6)", x.combos(0, 3, 6), 0);
        due("combos(0, 1, 3)", x.combos(0, 1, 3), 0);
    }

    private static void broken() {
        promise(31, "broken");
        CrossSums x = told("board 3 1 top 2;cage any a1;cage sum 3 b1 c1");
        due("broken(0)", x.broken(0), 0);
        due("broken(1)", x.broken(1), -2);
        due("broken(2)", x.broken(2), -2);
        due("broken(3)", x.broken(3), -1);
        due("broken(-1)", x.broken(-1), -1);
        x.put(1, 1);
        x.put(2, 1);
        due("broken(0)", x.broken(0), 1);
        due("broken(1)", x.broken(1), 1);
        due("broken(2)", x.broken(2), -2);
        x.strike(0, 1);
        x.strike(0, 2);
        due("broken(1)", x.broken(1), 0);
        due("broken(2)", x.broken(2), 0);
        x = told("board 3 1 top 2;across a1 any");
        due("three unlike of two", x.broken(1), 0);
        x = told("board 1 1 top 2");
        x.strike(0, 1);
        x.strike(0, 2);
        due("a cell in no cage", x.broken(0), 1);
        due("broken(1)", x.broken(1), -2);
    }

    private static void ranges() {
        promise(32, "range");
        CrossSums x = told("board 3 1 top 5;across a1 sum 9;across a1 product 9 alike;across a1 span 0;across a1 span 0 alike;across a1 any");
        int[][] want = {{6, 12}, {1, 125}, {2, 4}, {0, 4}, {0, 0}};
        for (int k = 0; k < 5; k++) {
            due("range(" + k + ", false)", x.range(k, false), want[k][0]);
            due("range(" + k + ", true)", x.range(k, true), want[k][1]);
        }
        x.put(0, 1);
        x.put(1, 1);
        due("range(0, true)", x.range(0, true), -2);
        due("range(0, false)", x.range(0, false), -2);
        due("range(4, false)", x.range(4, false), -2);
        due("range(1, true)", x.range(1, true), 5);
        due("range(3, true)", x.range(3, true), 4);
        due("range(5, true)", x.range(5, true), -1);
        due("range(-1, true)", x.range(-1, true), -1);
        for (int d = 1; d <= 5; d++) {
            x.strike(2, d);
        }
        due("range(1, true)", x.range(1, true), -2);
        due("range(3, true)", x.range(3, true), -2);
    }

    private static void idle() {
        promise(33, "idle");
        CrossSums x = told("board 3 1 top 3;across a1 any;given a1 2;given b1 1;given c1 3");
        due("each alone need not be", x.idle(), 7);
        tell(x, "board 3 1 top 3;across a1 any;given a1 2;given b1 1");
        due("both must be", x.idle(), 0);
        due("nothing given", told("board 3 1 top 3;across a1 any").idle(), 0);
        x = told("board 3 1 top 3;across a1 any;given a1 2;given b1 1;given c1 3");
        x.give(2, 2);
        // Without a1 the rest is 1 and 2: one is left; without c1 2 and 1; without b1 2 is twice.
        due("given against the cage", x.idle(), 5);
        x = told("board 3 1 top 3;across a1 any;given a1 2");
        x.put(1, 1);
        x.strike(2, 1);
        due("neither put nor struck counts", x.idle(), 0);
        x = told("board 2 1 top 3;across a1 sum 3;cage sum 1 a1;given a1 1");
        x.put(1, 3);
        due("what is put counts not", x.idle(), 1);
    }

    private static void letters() {
        promise(34, "letter");
        CrossSums x = told(BOARD + ";cage span 0 alike b1;given c2 3;given a2 2");
        String want = "board 3 2 top 4;block b2;cage sum 7 a1 b1 c1;cage sum 3 a1 a2;cage product 6 c1 c2;cage any a2 c2"
                + ";cage span 0 alike b1;given a2 2;given c2 3";
        due("letter(-1)", x.letter(-1), want.length());
        for (int k = 0; k < want.length(); k++) {
            due("letter(" + k + ")", x.letter(k), want.charAt(k));
        }
        due("letter behind the last", x.letter(want.length()), -2);
        due("letter(max)", x.letter(Integer.MAX_VALUE), -2);
        due("letter(-2)", x.letter(-2), -1);
        due("letter(-2) of a new one", new CrossSums().letter(-2), -1);
        x.put(A1, 1);
        x.strike(B1, 1);
        due("letter(-1)", x.letter(-1), want.length());
        x.total(0, 13);
        x.give(A1, 4);
        due("letter(-1)", x.letter(-1), want.length() + 1 + 11);
        StringBuilder long12 = new StringBuilder("board 5 4 top 7;block a1b1c1d1");
        for (int k = 0; k < 12; k++) {
            long12.append(";cage any alike e1a2b2c2d2e2");
        }
        x = told(long12.toString());
        due("letter(-1)", x.letter(-1), 15 + 6 + 12 + 12 * (";cage any alike".length() + 18));
    }

    private static void counts() {
        promise(35, "count");
        CrossSums x = told(BOARD + ";given b1 4");
        x.put(A1, 1);
        x.strike(C1, 1);
        x.feed(0, 0, 0, 0, 0);
        x.keep(1);
        int[] want = {3, 2, 4, 5, 4, 1, 2, 1 + 1 + 3 + 4 + 4, 2, 20, 2};
        for (int what = 0; what < want.length; what++) {
            due("count(" + what + ")", x.count(what), want[what]);
        }
        due("count(11)", x.count(11), -1);
        due("count(-1)", x.count(-1), -1);
        due("count(min)", x.count(Integer.MIN_VALUE), -1);
    }
}
